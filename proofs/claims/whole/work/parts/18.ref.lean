theorem d_Mo_isTable_0 : decode prog_7_method_20_code 0 = .ok (.iload_n 0, 1) := by decide +kernel
theorem d_Mo_isTable_1 : decode prog_7_method_20_code 1 = .ok (.ifCond .lt 12, 3) := by decide +kernel
theorem d_Mo_isTable_4 : decode prog_7_method_20_code 4 = .ok (.iload_n 0, 1) := by decide +kernel
theorem d_Mo_isTable_5 : decode prog_7_method_20_code 5 = .ok (.iconst 4, 1) := by decide +kernel
theorem d_Mo_isTable_6 : decode prog_7_method_20_code 6 = .ok (.if_icmp .ge 7, 3) := by decide +kernel
theorem d_Mo_isTable_9 : decode prog_7_method_20_code 9 = .ok (.iconst 1, 1) := by decide +kernel
theorem d_Mo_isTable_10 : decode prog_7_method_20_code 10 = .ok (.goto 4, 3) := by decide +kernel
theorem d_Mo_isTable_13 : decode prog_7_method_20_code 13 = .ok (.iconst 0, 1) := by decide +kernel
theorem d_Mo_isTable_14 : decode prog_7_method_20_code 14 = .ok (.ireturn, 1) := by decide +kernel
def f_R_isTable (t0 : Int32) : Option (Int32) :=
  ck_if (t0 < 0) (some 0) (ck_if (4 ≤ t0) (some 0) (some 1))
set_option maxHeartbeats 4000000 in
set_option maxRecDepth 100000 in
theorem c_R_isTable (l : Launch) (dC : Nat → ClassId) (dI : Nat → Nat → Nat) (cI cJ cB cZ cT cN : ClassId) (sz : Nat) (t0 : Int32) (r : Int32) (h : f_R_isTable t0 = some r) : Met l y_Mo_isTable w_Mo_isTable ({ frames := 0, cells := 0, slots := 0, locals := 0 } : Room) (va_Pc [.int t0] (fun U => U.heap.size = sz ∧ va_P (dC, dI) cl_all [] U.heap ∧ va_K (dC, dI) cl_all [(cI, .int), (cJ, .long), (cB, .byte), (cZ, .boolean), (cT, .object "BasisWalk$Table"), (cN, .object "BasisWalkModel$Num")] U ∧ NW U ∧ va_D (fun _ => True) [])) (va_Qi (fun (v : Int32) (_ : Unit) => v = r) (fun (u : Unit) (t : State) => va_P (dC, dI) cl_all [] t.heap ∧ va_K (dC, dI) cl_all [(cI, .int), (cJ, .long), (cB, .byte), (cZ, .boolean), (cT, .object "BasisWalk$Table"), (cN, .object "BasisWalkModel$Num")] t ∧ va_D (va_A [] sz) []) (va_A [] sz)) 0 0 (va_A [] sz) := by
  refine Met.ofW (cc := prog_7_method_20_code) (maxL := 1) (ret := (Option.some Jvm.ClassFile.FieldType.boolean)) (by decide) rfl ?_
  intro p e s m args below meth c s₁ B hml hv
  obtain ⟨hAR, hsz, hP, hK, hN, hD0⟩ := hv
  have hx := B.exec
  have hb := B.bytes
  have hr := B.returns
  have hts := atoms_spec (ws := w_Mo_isTable) B.pre
  have hown : s.vm.findClass "BasisWalkModel" = some m.cls := findClass_of_methodNamed B.named
  have hlocks := B.notSynchronized
  clear B
  subst hsz
  have hD := hD0.self (sz := s.heap.size)
  generalize hAe : va_A [] s.heap.size = A at hD ⊢
  have hA : ∀ q : Nat, s.heap.size ≤ q → A q := fun q h => by rw [← hAe]; exact Or.inr h
  clear hAe hD0
  have hS : va_S A s.heap s.heap [] := va_S.rf
  have hl := lv_entry ([.int t0]) (n := 1) (Nat.le_of_ble_eq_true rfl)
  subst hAR
  rw [lg_entry_eq]
  generalize (lg_sl ([.int t0]) ++ List.replicate (1 - (lg_sl ([.int t0])).length) Slot.unset).toArray = ls at hl ⊢
  have hl : lv_has ls 1 [(0, .int t0)] := hl
  change W p l e ({ frames := 0, cells := 0, slots := 0, locals := 0 } : Room) s m _ below meth c s.heap [] 0 0 _ _
  generalize hARe : ([.int t0] : List Value).toArray = AR at hts ⊢
  clear hARe
  generalize hQ : MQ below _ AR s 0 0 A = QQ
  obtain ⟨H, hHe⟩ : ∃ H : Heap, H = s.heap := ⟨_, rfl⟩
  rw [← hHe] at hP ⊢
  replace hS : va_S A s.heap H [] := by rw [hHe]; exact va_S.rf
  clear hHe
  unfold f_R_isTable at h
  refine lv_iload_n hx hb d_Mo_isTable_0 rfl (lv_at hl 0 rfl) ?_
  refine lv_if_lt (tgt := 13) hx hb d_Mo_isTable_1 (by decide) (fun c_1 => ?_) (fun c_1 => ?_)
  · replace h := ck_if_t h c_1
    refine lv_iconst (v := 0) hx hb d_Mo_isTable_13 (by decide) ?_
    obtain rfl := Option.some.inj h
    subst hQ
    exact W.zret (ty := .boolean) (v := 0) hx hb hr rfl (fun t ht hW => ⟨⟨0, (), rfl, rfl, by rw [ht]; exact hP, va_K.moved hW.alike hK, hD⟩, hS.F ht⟩) hS.2.2 d_Mo_isTable_14
  · replace h := ck_if_f h c_1
    refine lv_iload_n hx hb d_Mo_isTable_4 rfl (lv_at hl 0 rfl) ?_
    refine lv_iconst (v := 4) hx hb d_Mo_isTable_5 (by decide) ?_
    refine lv_icmp_ge (tgt := 13) hx hb d_Mo_isTable_6 (by decide) (fun c_2 => ?_) (fun c_2 => ?_)
    · replace h := ck_if_t h c_2
      refine lv_iconst (v := 0) hx hb d_Mo_isTable_13 (by decide) ?_
      obtain rfl := Option.some.inj h
      subst hQ
      exact W.zret (ty := .boolean) (v := 0) hx hb hr rfl (fun t ht hW => ⟨⟨0, (), rfl, rfl, by rw [ht]; exact hP, va_K.moved hW.alike hK, hD⟩, hS.F ht⟩) hS.2.2 d_Mo_isTable_14
    · replace h := ck_if_f h c_2
      refine lv_iconst (v := 1) hx hb d_Mo_isTable_9 (by decide) ?_
      refine lv_goto (tgt := 14) hx hb d_Mo_isTable_10 (by decide) ?_
      obtain rfl := Option.some.inj h
      subst hQ
      exact W.zret (ty := .boolean) (v := 1) hx hb hr rfl (fun t ht hW => ⟨⟨1, (), rfl, rfl, by rw [ht]; exact hP, va_K.moved hW.alike hK, hD⟩, hS.F ht⟩) hS.2.2 d_Mo_isTable_14
theorem d_Mo_isField_0 : decode prog_7_method_21_code 0 = .ok (.iload_n 0, 1) := by decide +kernel
theorem d_Mo_isField_1 : decode prog_7_method_21_code 1 = .ok (.ifCond .eq 15, 3) := by decide +kernel
theorem d_Mo_isField_4 : decode prog_7_method_21_code 4 = .ok (.iload_n 0, 1) := by decide +kernel
theorem d_Mo_isField_5 : decode prog_7_method_21_code 5 = .ok (.iconst 2, 1) := by decide +kernel
theorem d_Mo_isField_6 : decode prog_7_method_21_code 6 = .ok (.if_icmp .lt 14, 3) := by decide +kernel
theorem d_Mo_isField_9 : decode prog_7_method_21_code 9 = .ok (.iload_n 0, 1) := by decide +kernel
theorem d_Mo_isField_10 : decode prog_7_method_21_code 10 = .ok (.sipush 251, 3) := by decide +kernel
theorem d_Mo_isField_13 : decode prog_7_method_21_code 13 = .ok (.if_icmp .gt 7, 3) := by decide +kernel
theorem d_Mo_isField_16 : decode prog_7_method_21_code 16 = .ok (.iconst 1, 1) := by decide +kernel
theorem d_Mo_isField_17 : decode prog_7_method_21_code 17 = .ok (.goto 4, 3) := by decide +kernel
theorem d_Mo_isField_20 : decode prog_7_method_21_code 20 = .ok (.iconst 0, 1) := by decide +kernel
theorem d_Mo_isField_21 : decode prog_7_method_21_code 21 = .ok (.istore_n 1, 1) := by decide +kernel
theorem d_Mo_isField_22 : decode prog_7_method_21_code 22 = .ok (.iconst 2, 1) := by decide +kernel
theorem d_Mo_isField_23 : decode prog_7_method_21_code 23 = .ok (.istore_n 2, 1) := by decide +kernel
theorem d_Mo_isField_24 : decode prog_7_method_21_code 24 = .ok (.iload_n 2, 1) := by decide +kernel
theorem d_Mo_isField_25 : decode prog_7_method_21_code 25 = .ok (.iload_n 2, 1) := by decide +kernel
theorem d_Mo_isField_26 : decode prog_7_method_21_code 26 = .ok (.imul, 1) := by decide +kernel
theorem d_Mo_isField_27 : decode prog_7_method_21_code 27 = .ok (.iload_n 0, 1) := by decide +kernel
theorem d_Mo_isField_28 : decode prog_7_method_21_code 28 = .ok (.if_icmp .gt 25, 3) := by decide +kernel
theorem d_Mo_isField_31 : decode prog_7_method_21_code 31 = .ok (.iload_n 1, 1) := by decide +kernel
theorem d_Mo_isField_32 : decode prog_7_method_21_code 32 = .ok (.ifCond .eq 21, 3) := by decide +kernel
theorem d_Mo_isField_35 : decode prog_7_method_21_code 35 = .ok (.iload_n 0, 1) := by decide +kernel
theorem d_Mo_isField_36 : decode prog_7_method_21_code 36 = .ok (.iload_n 2, 1) := by decide +kernel
theorem d_Mo_isField_37 : decode prog_7_method_21_code 37 = .ok (.irem, 1) := by decide +kernel
theorem d_Mo_isField_38 : decode prog_7_method_21_code 38 = .ok (.ifCond .eq 7, 3) := by decide +kernel
theorem d_Mo_isField_41 : decode prog_7_method_21_code 41 = .ok (.iconst 1, 1) := by decide +kernel
theorem d_Mo_isField_42 : decode prog_7_method_21_code 42 = .ok (.goto 4, 3) := by decide +kernel
theorem d_Mo_isField_45 : decode prog_7_method_21_code 45 = .ok (.iconst 0, 1) := by decide +kernel
theorem d_Mo_isField_46 : decode prog_7_method_21_code 46 = .ok (.istore_n 1, 1) := by decide +kernel
theorem d_Mo_isField_47 : decode prog_7_method_21_code 47 = .ok (.iinc 2 1, 3) := by decide +kernel
theorem d_Mo_isField_50 : decode prog_7_method_21_code 50 = .ok (.goto (-26), 3) := by decide +kernel
theorem d_Mo_isField_53 : decode prog_7_method_21_code 53 = .ok (.iload_n 1, 1) := by decide +kernel
theorem d_Mo_isField_54 : decode prog_7_method_21_code 54 = .ok (.ireturn, 1) := by decide +kernel
def f_R_isField (f0 : Int32) : Option (Int32) :=
  ck_jn (fun (s0_1 : Int32) => lo2 (fun k_24 (v2_2 : Int32) (v1_3 : Int32) => ck_if (f0 < (v2_2 * v2_2)) (ck_z v1_3 <| some v1_3) (ck_if (v1_3 = 0) (ck_z v1_3 <| some v1_3) (ck_nz v2_2 <| ck_jn (fun (s0_9 : Int32) => ck_nm (v2_2 + 1) <| fun x_10 => k_24 x_10 s0_9) <| fun k_46 => ck_if ((f0 - f0 / v2_2 * v2_2) = 0) (k_46 0) (k_46 1)))) ck_F 2 s0_1) <| fun k_21 => ck_jn (fun (_ : Unit) => k_21 1) <| fun k_16 => ck_if (f0 = 0) (k_16 ()) (ck_jn (fun (_ : Unit) => k_21 0) <| fun k_20 => ck_if (f0 < 2) (k_20 ()) (ck_if (251 < f0) (k_20 ()) (k_16 ())))
set_option maxHeartbeats 4000000 in
set_option maxRecDepth 100000 in
theorem c_R_isField (l : Launch) (dC : Nat → ClassId) (dI : Nat → Nat → Nat) (cI cJ cB cZ cT cN : ClassId) (sz : Nat) (f0 : Int32) (r : Int32) (h : f_R_isField f0 = some r) : Met l y_Mo_isField w_Mo_isField ({ frames := 0, cells := 0, slots := 0, locals := 0 } : Room) (va_Pc [.int f0] (fun U => U.heap.size = sz ∧ va_P (dC, dI) cl_all [] U.heap ∧ va_K (dC, dI) cl_all [(cI, .int), (cJ, .long), (cB, .byte), (cZ, .boolean), (cT, .object "BasisWalk$Table"), (cN, .object "BasisWalkModel$Num")] U ∧ NW U ∧ va_D (fun _ => True) [])) (va_Qi (fun (v : Int32) (_ : Unit) => v = r) (fun (u : Unit) (t : State) => va_P (dC, dI) cl_all [] t.heap ∧ va_K (dC, dI) cl_all [(cI, .int), (cJ, .long), (cB, .byte), (cZ, .boolean), (cT, .object "BasisWalk$Table"), (cN, .object "BasisWalkModel$Num")] t ∧ va_D (va_A [] sz) []) (va_A [] sz)) 0 0 (va_A [] sz) := by
  refine Met.ofW (cc := prog_7_method_21_code) (maxL := 3) (ret := (Option.some Jvm.ClassFile.FieldType.boolean)) (by decide) rfl ?_
  intro p e s m args below meth c s₁ B hml hv
  obtain ⟨hAR, hsz, hP, hK, hN, hD0⟩ := hv
  have hx := B.exec
  have hb := B.bytes
  have hr := B.returns
  have hts := atoms_spec (ws := w_Mo_isField) B.pre
  have hown : s.vm.findClass "BasisWalkModel" = some m.cls := findClass_of_methodNamed B.named
  have hlocks := B.notSynchronized
  clear B
  subst hsz
  have hD := hD0.self (sz := s.heap.size)
  generalize hAe : va_A [] s.heap.size = A at hD ⊢
  have hA : ∀ q : Nat, s.heap.size ≤ q → A q := fun q h => by rw [← hAe]; exact Or.inr h
  clear hAe hD0
  have hS : va_S A s.heap s.heap [] := va_S.rf
  have hl := lv_entry ([.int f0]) (n := 3) (Nat.le_of_ble_eq_true rfl)
  subst hAR
  rw [lg_entry_eq]
  generalize (lg_sl ([.int f0]) ++ List.replicate (3 - (lg_sl ([.int f0])).length) Slot.unset).toArray = ls at hl ⊢
  have hl : lv_has ls 3 [(0, .int f0)] := hl
  change W p l e ({ frames := 0, cells := 0, slots := 0, locals := 0 } : Room) s m _ below meth c s.heap [] 0 0 _ _
  generalize hARe : ([.int f0] : List Value).toArray = AR at hts ⊢
  clear hARe
  generalize hQ : MQ below _ AR s 0 0 A = QQ
  obtain ⟨H, hHe⟩ : ∃ H : Heap, H = s.heap := ⟨_, rfl⟩
  rw [← hHe] at hP ⊢
  replace hS : va_S A s.heap H [] := by rw [hHe]; exact va_S.rf
  clear hHe
  unfold f_R_isField at h
  refine lv_iload_n hx hb d_Mo_isField_0 rfl (lv_at hl 0 rfl) ?_
  refine ck_jn_W h (fun k' => ∀ (s0_1 : Int32), k' s0_1 = some r → ∀ (H : Heap) (locs : List Loc), va_P (dC, dI) cl_all [] H → va_D A [] → va_S A s.heap H locs → ∀ ls : Array Slot, lv_has ls 3 [(0, .int f0)] → W p l e ({ frames := 0, cells := 0, slots := 0, locals := 0 } : Room) s m AR below meth c H locs 0 0 QQ (F0 m 21 ls [.int s0_1])) ?_ ?_
  · intro s0_1 h H locs hP hD hS ls hl
    refine lv_istore_n (lv' := [(1, .int s0_1), (0, .int f0)]) hx hb d_Mo_isField_21 rfl hl (by decide) rfl (fun ls hl => ?_)
    refine lv_iconst (v := 2) hx hb d_Mo_isField_22 (by decide) ?_
    refine lv_istore_n (lv' := [(2, .int 2), (1, .int s0_1), (0, .int f0)]) hx hb d_Mo_isField_23 rfl hl (by decide) rfl (fun ls hl => ?_)
    refine lo2_W (r := r) (fun (v2_2 : Int32) (v1_3 : Int32) => ∀ (H : Heap) (locs : List Loc), va_P (dC, dI) cl_all [] H → va_D A [] → va_S A s.heap H locs → ∀ ls : Array Slot, lv_has ls 3 [(0, .int f0), (1, .int v1_3), (2, .int v2_2)] → W p l e ({ frames := 0, cells := 0, slots := 0, locals := 0 } : Room) s m AR below meth c H locs 0 0 QQ (F0 m 24 ls [])) ?_ _ _ _ h _ _ hP hD hS _ (lv_sub hl [2, 1, 0] rfl)
    intro k_24 v2_2 v1_3 J_24 h H locs hP hD hS ls hl
    refine lv_iload_n hx hb d_Mo_isField_24 rfl (lv_at hl 2 rfl) ?_
    refine lv_iload_n hx hb d_Mo_isField_25 rfl (lv_at hl 2 rfl) ?_
    refine lv_imul hx hb d_Mo_isField_26 ?_
    refine lv_iload_n hx hb d_Mo_isField_27 rfl (lv_at hl 0 rfl) ?_
    refine lv_icmp_gt (tgt := 53) hx hb d_Mo_isField_28 (by decide) (fun c_4 => ?_) (fun c_4 => ?_)
    · replace h := ck_if_t h c_4
      refine lv_iload_n hx hb d_Mo_isField_53 rfl (lv_at hl 1 rfl) ?_
      obtain ⟨g_5, h⟩ := ck_z_s h
      obtain rfl := Option.some.inj h
      subst hQ
      exact W.zret (ty := .boolean) (v := v1_3) hx hb hr g_5.1 (fun t ht hW => ⟨⟨v1_3, (), rfl, rfl, by rw [ht]; exact hP, va_K.moved hW.alike hK, hD⟩, hS.F ht⟩) hS.2.2 d_Mo_isField_54
    · replace h := ck_if_f h c_4
      refine lv_iload_n hx hb d_Mo_isField_31 rfl (lv_at hl 1 rfl) ?_
      refine lv_if_eq (tgt := 53) hx hb d_Mo_isField_32 (by decide) (fun c_6 => ?_) (fun c_6 => ?_)
      · replace h := ck_if_t h c_6
        refine lv_iload_n hx hb d_Mo_isField_53 rfl (lv_at hl 1 rfl) ?_
        obtain ⟨g_7, h⟩ := ck_z_s h
        obtain rfl := Option.some.inj h
        subst hQ
        exact W.zret (ty := .boolean) (v := v1_3) hx hb hr g_7.1 (fun t ht hW => ⟨⟨v1_3, (), rfl, rfl, by rw [ht]; exact hP, va_K.moved hW.alike hK, hD⟩, hS.F ht⟩) hS.2.2 d_Mo_isField_54
      · replace h := ck_if_f h c_6
        refine lv_iload_n hx hb d_Mo_isField_35 rfl (lv_at hl 0 rfl) ?_
        refine lv_iload_n hx hb d_Mo_isField_36 rfl (lv_at hl 2 rfl) ?_
        obtain ⟨g_8, h⟩ := ck_nz_s h
        refine lv_irem hx hb d_Mo_isField_37 g_8 ?_
        refine ck_jn_W h (fun k' => ∀ (s0_9 : Int32), k' s0_9 = some r → ∀ (H : Heap) (locs : List Loc), va_P (dC, dI) cl_all [] H → va_D A [] → va_S A s.heap H locs → ∀ ls : Array Slot, lv_has ls 3 [(0, .int f0), (2, .int v2_2)] → W p l e ({ frames := 0, cells := 0, slots := 0, locals := 0 } : Room) s m AR below meth c H locs 0 0 QQ (F0 m 46 ls [.int s0_9])) ?_ ?_
        · intro s0_9 h H locs hP hD hS ls hl
          refine lv_istore_n (lv' := [(1, .int s0_9), (0, .int f0), (2, .int v2_2)]) hx hb d_Mo_isField_46 rfl hl (by decide) rfl (fun ls hl => ?_)
          obtain ⟨x_10, ex_10⟩ : ∃ y : Int32, y = v2_2 + 1 := ⟨_, rfl⟩
          replace h := ck_nm_s h ex_10
          refine lv_iinc (v := x_10) (lv' := [(2, .int x_10), (1, .int s0_9), (0, .int f0)]) hx hb d_Mo_isField_47 hl (k := 2) rfl (by rw [ex_10]; rfl) (by decide) rfl (fun ls hl => ?_)
          refine lv_goto (tgt := 24) hx hb d_Mo_isField_50 (by decide) ?_
          exact J_24 _ _ h _ _ hP hD hS _ (lv_sub hl [2, 1, 0] rfl)
        · intro k_46 J_46 h
          refine lv_if_eq (tgt := 45) hx hb d_Mo_isField_38 (by decide) (fun c_11 => ?_) (fun c_11 => ?_)
          · replace h := ck_if_t h c_11
            refine lv_iconst (v := 0) hx hb d_Mo_isField_45 (by decide) ?_
            exact J_46 _ h _ _ hP hD hS _ (lv_sub hl [0, 2] rfl)
          · replace h := ck_if_f h c_11
            refine lv_iconst (v := 1) hx hb d_Mo_isField_41 (by decide) ?_
            refine lv_goto (tgt := 46) hx hb d_Mo_isField_42 (by decide) ?_
            exact J_46 _ h _ _ hP hD hS _ (lv_sub hl [0, 2] rfl)
  · intro k_21 J_21 h
    refine ck_jn_W h (fun k' => ∀ u : Unit, k' u = some r → ∀ (H : Heap) (locs : List Loc), va_P (dC, dI) cl_all [] H → va_D A [] → va_S A s.heap H locs → ∀ ls : Array Slot, lv_has ls 3 [(0, .int f0)] → W p l e ({ frames := 0, cells := 0, slots := 0, locals := 0 } : Room) s m AR below meth c H locs 0 0 QQ (F0 m 16 ls [])) ?_ ?_
    · intro _ h H locs hP hD hS ls hl
      refine lv_iconst (v := 1) hx hb d_Mo_isField_16 (by decide) ?_
      refine lv_goto (tgt := 21) hx hb d_Mo_isField_17 (by decide) ?_
      exact J_21 _ h _ _ hP hD hS _ (lv_sub hl [0] rfl)
    · intro k_16 J_16 h
      refine lv_if_eq (tgt := 16) hx hb d_Mo_isField_1 (by decide) (fun c_12 => ?_) (fun c_12 => ?_)
      · replace h := ck_if_t h c_12
        exact J_16 _ h _ _ hP hD hS _ (lv_sub hl [0] rfl)
      · replace h := ck_if_f h c_12
        refine lv_iload_n hx hb d_Mo_isField_4 rfl (lv_at hl 0 rfl) ?_
        refine lv_iconst (v := 2) hx hb d_Mo_isField_5 (by decide) ?_
        refine ck_jn_W h (fun k' => ∀ u : Unit, k' u = some r → ∀ (H : Heap) (locs : List Loc), va_P (dC, dI) cl_all [] H → va_D A [] → va_S A s.heap H locs → ∀ ls : Array Slot, lv_has ls 3 [(0, .int f0)] → W p l e ({ frames := 0, cells := 0, slots := 0, locals := 0 } : Room) s m AR below meth c H locs 0 0 QQ (F0 m 20 ls [])) ?_ ?_
        · intro _ h H locs hP hD hS ls hl
          refine lv_iconst (v := 0) hx hb d_Mo_isField_20 (by decide) ?_
          exact J_21 _ h _ _ hP hD hS _ (lv_sub hl [0] rfl)
        · intro k_20 J_20 h
          refine lv_icmp_lt (tgt := 20) hx hb d_Mo_isField_6 (by decide) (fun c_13 => ?_) (fun c_13 => ?_)
          · replace h := ck_if_t h c_13
            exact J_20 _ h _ _ hP hD hS _ (lv_sub hl [0] rfl)
          · replace h := ck_if_f h c_13
            refine lv_iload_n hx hb d_Mo_isField_9 rfl (lv_at hl 0 rfl) ?_
            refine lv_sipush (v := 251) hx hb d_Mo_isField_10 (by decide) ?_
            refine lv_icmp_gt (tgt := 20) hx hb d_Mo_isField_13 (by decide) (fun c_14 => ?_) (fun c_14 => ?_)
            · replace h := ck_if_t h c_14
              exact J_20 _ h _ _ hP hD hS _ (lv_sub hl [0] rfl)
            · replace h := ck_if_f h c_14
              exact J_16 _ h _ _ hP hD hS _ (lv_sub hl [0] rfl)
theorem d_Mo_begin_0 : decode prog_7_method_22_code 0 = .ok (.iload_n 1, 1) := by decide +kernel
theorem d_Mo_begin_1 : decode prog_7_method_22_code 1 = .ok (.invokestatic 199, 3) := by decide +kernel
theorem d_Mo_begin_4 : decode prog_7_method_22_code 4 = .ok (.ifCond .eq 32, 3) := by decide +kernel
theorem d_Mo_begin_7 : decode prog_7_method_22_code 7 = .ok (.iload_n 2, 1) := by decide +kernel
theorem d_Mo_begin_8 : decode prog_7_method_22_code 8 = .ok (.invokestatic 203, 3) := by decide +kernel
theorem d_Mo_begin_11 : decode prog_7_method_22_code 11 = .ok (.ifCond .eq 25, 3) := by decide +kernel
theorem d_Mo_begin_14 : decode prog_7_method_22_code 14 = .ok (.iload_n 3, 1) := by decide +kernel
theorem d_Mo_begin_15 : decode prog_7_method_22_code 15 = .ok (.ifCond .lt 21, 3) := by decide +kernel
theorem d_Mo_begin_18 : decode prog_7_method_22_code 18 = .ok (.iload_n 3, 1) := by decide +kernel
theorem d_Mo_begin_19 : decode prog_7_method_22_code 19 = .ok (.bipush 12, 2) := by decide +kernel
theorem d_Mo_begin_21 : decode prog_7_method_22_code 21 = .ok (.if_icmp .gt 15, 3) := by decide +kernel
theorem d_Mo_begin_24 : decode prog_7_method_22_code 24 = .ok (.iload 4, 2) := by decide +kernel
theorem d_Mo_begin_26 : decode prog_7_method_22_code 26 = .ok (.ifCond .lt 10, 3) := by decide +kernel
theorem d_Mo_begin_29 : decode prog_7_method_22_code 29 = .ok (.iload 4, 2) := by decide +kernel
theorem d_Mo_begin_31 : decode prog_7_method_22_code 31 = .ok (.bipush 12, 2) := by decide +kernel
theorem d_Mo_begin_33 : decode prog_7_method_22_code 33 = .ok (.if_icmp .le 5, 3) := by decide +kernel
theorem d_Mo_begin_36 : decode prog_7_method_22_code 36 = .ok (.iconst 0, 1) := by decide +kernel
theorem d_Mo_begin_37 : decode prog_7_method_22_code 37 = .ok (.ireturn, 1) := by decide +kernel
theorem d_Mo_begin_38 : decode prog_7_method_22_code 38 = .ok (.aload_n 0, 1) := by decide +kernel
theorem d_Mo_begin_39 : decode prog_7_method_22_code 39 = .ok (.getfield 153, 3) := by decide +kernel
theorem d_Mo_begin_42 : decode prog_7_method_22_code 42 = .ok (.iload_n 1, 1) := by decide +kernel
theorem d_Mo_begin_43 : decode prog_7_method_22_code 43 = .ok (.iload_n 2, 1) := by decide +kernel
theorem d_Mo_begin_44 : decode prog_7_method_22_code 44 = .ok (.iastore, 1) := by decide +kernel
theorem d_Mo_begin_45 : decode prog_7_method_22_code 45 = .ok (.aload_n 0, 1) := by decide +kernel
theorem d_Mo_begin_46 : decode prog_7_method_22_code 46 = .ok (.getfield 156, 3) := by decide +kernel
theorem d_Mo_begin_49 : decode prog_7_method_22_code 49 = .ok (.iload_n 1, 1) := by decide +kernel
theorem d_Mo_begin_50 : decode prog_7_method_22_code 50 = .ok (.iload_n 3, 1) := by decide +kernel
theorem d_Mo_begin_51 : decode prog_7_method_22_code 51 = .ok (.iastore, 1) := by decide +kernel
theorem d_Mo_begin_52 : decode prog_7_method_22_code 52 = .ok (.aload_n 0, 1) := by decide +kernel
theorem d_Mo_begin_53 : decode prog_7_method_22_code 53 = .ok (.getfield 159, 3) := by decide +kernel
theorem d_Mo_begin_56 : decode prog_7_method_22_code 56 = .ok (.iload_n 1, 1) := by decide +kernel
theorem d_Mo_begin_57 : decode prog_7_method_22_code 57 = .ok (.iload 4, 2) := by decide +kernel
theorem d_Mo_begin_59 : decode prog_7_method_22_code 59 = .ok (.iastore, 1) := by decide +kernel
theorem d_Mo_begin_60 : decode prog_7_method_22_code 60 = .ok (.aload_n 0, 1) := by decide +kernel
theorem d_Mo_begin_61 : decode prog_7_method_22_code 61 = .ok (.getfield 165, 3) := by decide +kernel
theorem d_Mo_begin_64 : decode prog_7_method_22_code 64 = .ok (.iload_n 1, 1) := by decide +kernel
theorem d_Mo_begin_65 : decode prog_7_method_22_code 65 = .ok (.iconst 0, 1) := by decide +kernel
theorem d_Mo_begin_66 : decode prog_7_method_22_code 66 = .ok (.bastore, 1) := by decide +kernel
theorem d_Mo_begin_67 : decode prog_7_method_22_code 67 = .ok (.iconst 0, 1) := by decide +kernel
theorem d_Mo_begin_68 : decode prog_7_method_22_code 68 = .ok (.istore 5, 2) := by decide +kernel
theorem d_Mo_begin_70 : decode prog_7_method_22_code 70 = .ok (.iload 5, 2) := by decide +kernel
theorem d_Mo_begin_72 : decode prog_7_method_22_code 72 = .ok (.sipush 144, 3) := by decide +kernel
theorem d_Mo_begin_75 : decode prog_7_method_22_code 75 = .ok (.if_icmp .ge 23, 3) := by decide +kernel
theorem d_Mo_begin_78 : decode prog_7_method_22_code 78 = .ok (.aload_n 0, 1) := by decide +kernel
theorem d_Mo_begin_79 : decode prog_7_method_22_code 79 = .ok (.getfield 162, 3) := by decide +kernel
theorem d_Mo_begin_82 : decode prog_7_method_22_code 82 = .ok (.sipush 144, 3) := by decide +kernel
theorem d_Mo_begin_85 : decode prog_7_method_22_code 85 = .ok (.iload_n 1, 1) := by decide +kernel
theorem d_Mo_begin_86 : decode prog_7_method_22_code 86 = .ok (.imul, 1) := by decide +kernel
theorem d_Mo_begin_87 : decode prog_7_method_22_code 87 = .ok (.iload 5, 2) := by decide +kernel
theorem d_Mo_begin_89 : decode prog_7_method_22_code 89 = .ok (.iadd, 1) := by decide +kernel
theorem d_Mo_begin_90 : decode prog_7_method_22_code 90 = .ok (.iconst 0, 1) := by decide +kernel
theorem d_Mo_begin_91 : decode prog_7_method_22_code 91 = .ok (.iastore, 1) := by decide +kernel
theorem d_Mo_begin_92 : decode prog_7_method_22_code 92 = .ok (.iinc 5 1, 3) := by decide +kernel
theorem d_Mo_begin_95 : decode prog_7_method_22_code 95 = .ok (.goto (-25), 3) := by decide +kernel
theorem d_Mo_begin_98 : decode prog_7_method_22_code 98 = .ok (.iconst 1, 1) := by decide +kernel
theorem d_Mo_begin_99 : decode prog_7_method_22_code 99 = .ok (.ireturn, 1) := by decide +kernel
def f_R_begin (m_fields_n : Nat) (m_fields : Nat → Int32) (m_rowCounts_n : Nat) (m_rowCounts : Nat → Int32) (m_elements_n : Nat) (m_elements : Nat → Int32) (m_known_n : Nat) (m_known : Nat → Int32) (m_numbers_n : Nat) (m_numbers : Nat → Int32) (t0 : Int32) (f0 : Int32) (r0 : Int32) (c0 : Int32) : Option (Int32 × (Nat → Int32) × (Nat → Int32) × (Nat → Int32) × (Nat → Int32) × (Nat → Int32)) :=
  ck_b1 (f_R_isTable t0) <| fun r_1 => ck_if (r_1 = 0) (some (0, m_fields, m_rowCounts, m_elements, m_known, m_numbers)) (ck_b1 (f_R_isField f0) <| fun r_4 => ck_if (r_4 = 0) (some (0, m_fields, m_rowCounts, m_elements, m_known, m_numbers)) (ck_if (r0 < 0) (some (0, m_fields, m_rowCounts, m_elements, m_known, m_numbers)) (ck_if (12 < r0) (some (0, m_fields, m_rowCounts, m_elements, m_known, m_numbers)) (ck_if (c0 < 0) (some (0, m_fields, m_rowCounts, m_elements, m_known, m_numbers)) (ck_if (c0 ≤ 12) (ck_in t0 m_fields_n <| ck_in t0 m_rowCounts_n <| ck_in t0 m_elements_n <| ck_in t0 m_known_n <| lo2 (fun k_70 (v5_15 : Int32) (w_16 : Nat → Int32) => ck_if (144 ≤ v5_15) (some (1, (upd m_fields t0.toNatClampNeg f0), (upd m_rowCounts t0.toNatClampNeg r0), (upd m_elements t0.toNatClampNeg c0), (upd m_known t0.toNatClampNeg (vp_nar .boolean 0)), w_16)) (ck_in ((144 * t0) + v5_15) m_numbers_n <| ck_nm (v5_15 + 1) <| fun x_19 => k_70 x_19 (upd w_16 ((144 * t0) + v5_15).toNatClampNeg 0))) ck_F 0 m_numbers) (some (0, m_fields, m_rowCounts, m_elements, m_known, m_numbers)))))))
set_option maxHeartbeats 4000000 in
set_option maxRecDepth 100000 in
theorem c_R_begin (l : Launch) (dC : Nat → ClassId) (dI : Nat → Nat → Nat) (cI cJ cB cZ cT cN : ClassId) (sz : Nat) (h_m : Nat) (h_m_one : Nat) (h_m_two : Nat) (h_m_three : Nat) (h_m_four : Nat) (h_m_five : Nat) (h_m_six : Nat) (h_m_seven : Nat) (h_m_eight : Nat) (h_m_work : Nat) (h_m_small : Nat) (h_m_pivots : Nat) (h_m_freeRows : Nat) (h_m_freeColumns : Nat) (h_m_minor : Nat) (h_m_smallMinor : Nat) (h_m_fields : Nat) (h_m_rowCounts : Nat) (h_m_elements : Nat) (h_m_numbers : Nat) (h_m_known : Nat) (h_m_ranks : Nat) (h_m_rankOf : Nat) (h_m_signOf : Nat) (h_m_order : Nat) (h_m_sizes : Nat) (h_m_coefficients : Nat) (h_m_choices : Nat) (h_m_sorted : Nat) (m_rows : Int32) (m_columns : Int32) (m_prime : Int32) (m_fields_n : Nat) (m_fields : Nat → Int32) (m_rowCounts_n : Nat) (m_rowCounts : Nat → Int32) (m_elements_n : Nat) (m_elements : Nat → Int32) (m_known_n : Nat) (m_known : Nat → Int32) (m_numbers_n : Nat) (m_numbers : Nat → Int32) (t0 : Int32) (f0 : Int32) (r0 : Int32) (c0 : Int32) (r : Int32 × (Nat → Int32) × (Nat → Int32) × (Nat → Int32) × (Nat → Int32) × (Nat → Int32)) (h : f_R_begin m_fields_n m_fields m_rowCounts_n m_rowCounts m_elements_n m_elements m_known_n m_known m_numbers_n m_numbers t0 f0 r0 c0 = some r) : Met l y_Mo_begin w_Mo_begin ({ frames := 1, cells := 0, slots := 0, locals := 22 } : Room) (va_Pc [.ref h_m, .int t0, .int f0, .int r0, .int c0] (fun U => U.heap.size = sz ∧ va_P (dC, dI) cl_all [(h_m, .inr (6, [.ref h_m_one, .ref h_m_two, .ref h_m_three, .ref h_m_four, .ref h_m_five, .ref h_m_six, .ref h_m_seven, .ref h_m_eight, .ref h_m_work, .ref h_m_small, .int m_rows, .int m_columns, .int m_prime, .ref h_m_pivots, .ref h_m_freeRows, .ref h_m_freeColumns, .ref h_m_minor, .ref h_m_smallMinor, .ref h_m_fields, .ref h_m_rowCounts, .ref h_m_elements, .ref h_m_numbers, .ref h_m_known, .ref h_m_ranks, .ref h_m_rankOf, .ref h_m_signOf, .ref h_m_order, .ref h_m_sizes, .ref h_m_coefficients, .ref h_m_choices, .ref h_m_sorted])), (h_m_fields, .inl (cI, m_fields_n, .inl m_fields)), (h_m_rowCounts, .inl (cI, m_rowCounts_n, .inl m_rowCounts)), (h_m_elements, .inl (cI, m_elements_n, .inl m_elements)), (h_m_known, .inl (cZ, m_known_n, .inl m_known)), (h_m_numbers, .inl (cI, m_numbers_n, .inl m_numbers))] U.heap ∧ va_K (dC, dI) cl_all [(cI, .int), (cJ, .long), (cB, .byte), (cZ, .boolean), (cT, .object "BasisWalk$Table"), (cN, .object "BasisWalkModel$Num")] U ∧ NW U ∧ va_D (fun _ => True) [(h_m, .inr (6, [.ref h_m_one, .ref h_m_two, .ref h_m_three, .ref h_m_four, .ref h_m_five, .ref h_m_six, .ref h_m_seven, .ref h_m_eight, .ref h_m_work, .ref h_m_small, .int m_rows, .int m_columns, .int m_prime, .ref h_m_pivots, .ref h_m_freeRows, .ref h_m_freeColumns, .ref h_m_minor, .ref h_m_smallMinor, .ref h_m_fields, .ref h_m_rowCounts, .ref h_m_elements, .ref h_m_numbers, .ref h_m_known, .ref h_m_ranks, .ref h_m_rankOf, .ref h_m_signOf, .ref h_m_order, .ref h_m_sizes, .ref h_m_coefficients, .ref h_m_choices, .ref h_m_sorted])), (h_m_fields, .inl (cI, m_fields_n, .inl m_fields)), (h_m_rowCounts, .inl (cI, m_rowCounts_n, .inl m_rowCounts)), (h_m_elements, .inl (cI, m_elements_n, .inl m_elements)), (h_m_known, .inl (cZ, m_known_n, .inl m_known)), (h_m_numbers, .inl (cI, m_numbers_n, .inl m_numbers))])) (va_Qi (fun (v : Int32) (u : (Nat → Int32) × (Nat → Int32) × (Nat → Int32) × (Nat → Int32) × (Nat → Int32)) => (v, u) = r) (fun (u : (Nat → Int32) × (Nat → Int32) × (Nat → Int32) × (Nat → Int32) × (Nat → Int32)) (t : State) => va_P (dC, dI) cl_all [(h_m, .inr (6, [.ref h_m_one, .ref h_m_two, .ref h_m_three, .ref h_m_four, .ref h_m_five, .ref h_m_six, .ref h_m_seven, .ref h_m_eight, .ref h_m_work, .ref h_m_small, .int m_rows, .int m_columns, .int m_prime, .ref h_m_pivots, .ref h_m_freeRows, .ref h_m_freeColumns, .ref h_m_minor, .ref h_m_smallMinor, .ref h_m_fields, .ref h_m_rowCounts, .ref h_m_elements, .ref h_m_numbers, .ref h_m_known, .ref h_m_ranks, .ref h_m_rankOf, .ref h_m_signOf, .ref h_m_order, .ref h_m_sizes, .ref h_m_coefficients, .ref h_m_choices, .ref h_m_sorted])), (h_m_fields, .inl (cI, m_fields_n, .inl u.1)), (h_m_rowCounts, .inl (cI, m_rowCounts_n, .inl u.2.1)), (h_m_elements, .inl (cI, m_elements_n, .inl u.2.2.1)), (h_m_known, .inl (cZ, m_known_n, .inl u.2.2.2.1)), (h_m_numbers, .inl (cI, m_numbers_n, .inl u.2.2.2.2))] t.heap ∧ va_K (dC, dI) cl_all [(cI, .int), (cJ, .long), (cB, .byte), (cZ, .boolean), (cT, .object "BasisWalk$Table"), (cN, .object "BasisWalkModel$Num")] t ∧ va_D (va_A [(h_m, .inr (6, [.ref h_m_one, .ref h_m_two, .ref h_m_three, .ref h_m_four, .ref h_m_five, .ref h_m_six, .ref h_m_seven, .ref h_m_eight, .ref h_m_work, .ref h_m_small, .int m_rows, .int m_columns, .int m_prime, .ref h_m_pivots, .ref h_m_freeRows, .ref h_m_freeColumns, .ref h_m_minor, .ref h_m_smallMinor, .ref h_m_fields, .ref h_m_rowCounts, .ref h_m_elements, .ref h_m_numbers, .ref h_m_known, .ref h_m_ranks, .ref h_m_rankOf, .ref h_m_signOf, .ref h_m_order, .ref h_m_sizes, .ref h_m_coefficients, .ref h_m_choices, .ref h_m_sorted])), (h_m_fields, .inl (cI, m_fields_n, .inl m_fields)), (h_m_rowCounts, .inl (cI, m_rowCounts_n, .inl m_rowCounts)), (h_m_elements, .inl (cI, m_elements_n, .inl m_elements)), (h_m_known, .inl (cZ, m_known_n, .inl m_known)), (h_m_numbers, .inl (cI, m_numbers_n, .inl m_numbers))] sz) [(h_m, .inr (6, [.ref h_m_one, .ref h_m_two, .ref h_m_three, .ref h_m_four, .ref h_m_five, .ref h_m_six, .ref h_m_seven, .ref h_m_eight, .ref h_m_work, .ref h_m_small, .int m_rows, .int m_columns, .int m_prime, .ref h_m_pivots, .ref h_m_freeRows, .ref h_m_freeColumns, .ref h_m_minor, .ref h_m_smallMinor, .ref h_m_fields, .ref h_m_rowCounts, .ref h_m_elements, .ref h_m_numbers, .ref h_m_known, .ref h_m_ranks, .ref h_m_rankOf, .ref h_m_signOf, .ref h_m_order, .ref h_m_sizes, .ref h_m_coefficients, .ref h_m_choices, .ref h_m_sorted])), (h_m_fields, .inl (cI, m_fields_n, .inl u.1)), (h_m_rowCounts, .inl (cI, m_rowCounts_n, .inl u.2.1)), (h_m_elements, .inl (cI, m_elements_n, .inl u.2.2.1)), (h_m_known, .inl (cZ, m_known_n, .inl u.2.2.2.1)), (h_m_numbers, .inl (cI, m_numbers_n, .inl u.2.2.2.2))]) (va_A [(h_m, .inr (6, [.ref h_m_one, .ref h_m_two, .ref h_m_three, .ref h_m_four, .ref h_m_five, .ref h_m_six, .ref h_m_seven, .ref h_m_eight, .ref h_m_work, .ref h_m_small, .int m_rows, .int m_columns, .int m_prime, .ref h_m_pivots, .ref h_m_freeRows, .ref h_m_freeColumns, .ref h_m_minor, .ref h_m_smallMinor, .ref h_m_fields, .ref h_m_rowCounts, .ref h_m_elements, .ref h_m_numbers, .ref h_m_known, .ref h_m_ranks, .ref h_m_rankOf, .ref h_m_signOf, .ref h_m_order, .ref h_m_sizes, .ref h_m_coefficients, .ref h_m_choices, .ref h_m_sorted])), (h_m_fields, .inl (cI, m_fields_n, .inl m_fields)), (h_m_rowCounts, .inl (cI, m_rowCounts_n, .inl m_rowCounts)), (h_m_elements, .inl (cI, m_elements_n, .inl m_elements)), (h_m_known, .inl (cZ, m_known_n, .inl m_known)), (h_m_numbers, .inl (cI, m_numbers_n, .inl m_numbers))] sz)) 0 0 (va_A [(h_m, .inr (6, [.ref h_m_one, .ref h_m_two, .ref h_m_three, .ref h_m_four, .ref h_m_five, .ref h_m_six, .ref h_m_seven, .ref h_m_eight, .ref h_m_work, .ref h_m_small, .int m_rows, .int m_columns, .int m_prime, .ref h_m_pivots, .ref h_m_freeRows, .ref h_m_freeColumns, .ref h_m_minor, .ref h_m_smallMinor, .ref h_m_fields, .ref h_m_rowCounts, .ref h_m_elements, .ref h_m_numbers, .ref h_m_known, .ref h_m_ranks, .ref h_m_rankOf, .ref h_m_signOf, .ref h_m_order, .ref h_m_sizes, .ref h_m_coefficients, .ref h_m_choices, .ref h_m_sorted])), (h_m_fields, .inl (cI, m_fields_n, .inl m_fields)), (h_m_rowCounts, .inl (cI, m_rowCounts_n, .inl m_rowCounts)), (h_m_elements, .inl (cI, m_elements_n, .inl m_elements)), (h_m_known, .inl (cZ, m_known_n, .inl m_known)), (h_m_numbers, .inl (cI, m_numbers_n, .inl m_numbers))] sz) := by
  refine Met.ofW (cc := prog_7_method_22_code) (maxL := 6) (ret := (Option.some Jvm.ClassFile.FieldType.boolean)) (by decide) rfl ?_
  intro p e s m args below meth c s₁ B hml hv
  obtain ⟨hAR, hsz, hP, hK, hN, hD0⟩ := hv
  have hx := B.exec
  have hb := B.bytes
  have hr := B.returns
  have hts := atoms_spec (ws := w_Mo_begin) B.pre
  have hown : s.vm.findClass "BasisWalkModel" = some m.cls := findClass_of_methodNamed B.named
  have hlocks := B.notSynchronized
  clear B
  subst hsz
  have hD := hD0.self (sz := s.heap.size)
  generalize hAe : va_A [(h_m, .inr (6, [.ref h_m_one, .ref h_m_two, .ref h_m_three, .ref h_m_four, .ref h_m_five, .ref h_m_six, .ref h_m_seven, .ref h_m_eight, .ref h_m_work, .ref h_m_small, .int m_rows, .int m_columns, .int m_prime, .ref h_m_pivots, .ref h_m_freeRows, .ref h_m_freeColumns, .ref h_m_minor, .ref h_m_smallMinor, .ref h_m_fields, .ref h_m_rowCounts, .ref h_m_elements, .ref h_m_numbers, .ref h_m_known, .ref h_m_ranks, .ref h_m_rankOf, .ref h_m_signOf, .ref h_m_order, .ref h_m_sizes, .ref h_m_coefficients, .ref h_m_choices, .ref h_m_sorted])), (h_m_fields, .inl (cI, m_fields_n, .inl m_fields)), (h_m_rowCounts, .inl (cI, m_rowCounts_n, .inl m_rowCounts)), (h_m_elements, .inl (cI, m_elements_n, .inl m_elements)), (h_m_known, .inl (cZ, m_known_n, .inl m_known)), (h_m_numbers, .inl (cI, m_numbers_n, .inl m_numbers))] s.heap.size = A at hD ⊢
  have hA : ∀ q : Nat, s.heap.size ≤ q → A q := fun q h => by rw [← hAe]; exact Or.inr h
  clear hAe hD0
  have hS : va_S A s.heap s.heap [] := va_S.rf
  have hl := lv_entry ([.ref h_m, .int t0, .int f0, .int r0, .int c0]) (n := 6) (Nat.le_of_ble_eq_true rfl)
  subst hAR
  rw [lg_entry_eq]
  generalize (lg_sl ([.ref h_m, .int t0, .int f0, .int r0, .int c0]) ++ List.replicate (6 - (lg_sl ([.ref h_m, .int t0, .int f0, .int r0, .int c0])).length) Slot.unset).toArray = ls at hl ⊢
  have hl : lv_has ls 6 [(0, .ref h_m), (1, .int t0), (2, .int f0), (3, .int r0), (4, .int c0)] := hl
  change W p l e ({ frames := 1, cells := 0, slots := 0, locals := 22 } : Room) s m _ below meth c s.heap [] 0 0 _ _
  generalize hARe : ([.ref h_m, .int t0, .int f0, .int r0, .int c0] : List Value).toArray = AR at hts ⊢
  clear hARe
  generalize hQ : MQ below _ AR s 0 0 A = QQ
  have fl0 := hts _ (List.mem_cons_of_mem _ tw_373)
  have iw1 := (fun w hw => List.mem_cons_of_mem _ (in_Mo w hw) : ∀ w ∈ u_ws "BasisWalkModel" T_Mo 31, w ∈ w_Mo_begin)
  have fl2 := hts _ (List.mem_cons_of_mem _ tw_374)
  have fl3 := hts _ (List.mem_cons_of_mem _ tw_375)
  have fl4 := hts _ (List.mem_cons_of_mem _ tw_377)
  have fl5 := hts _ (List.mem_cons_of_mem _ tw_376)
  obtain ⟨H, hHe⟩ : ∃ H : Heap, H = s.heap := ⟨_, rfl⟩
  rw [← hHe] at hP ⊢
  replace hS : va_S A s.heap H [] := by rw [hHe]; exact va_S.rf
  clear hHe
  unfold f_R_begin at h
  refine lv_iload_n hx hb d_Mo_begin_0 rfl (lv_at hl 1 rfl) ?_
  obtain ⟨r_1, hc_2, h⟩ := ck_b1_s h
  have hPc := hP.sub (ws' := []) [] rfl
  have hDc := hD.sub (ws' := []) [] (by decide) rfl
  have hFc := va_free (wc := []) hD hS hA [] rfl
  refine va_calli (va_runS (As := [.int t0]) (rest := []) ⟨hx, hb, hml, hown, hts⟩ (c_R_isTable l dC dI cI cJ cB cZ cT cN H.size t0 _ hc_2) (va_cwS 1 hts (tb_S tw_455 tw_456 tw_6 tw_457) rfl rfl rfl (by decide +kernel) ⟨Nat.le_of_ble_eq_true rfl, Nat.le_of_ble_eq_true rfl⟩) ⟨fun a U g mk q => by obtain ⟨q0, q1, qP, qK, qN, qD⟩ := q; exact ⟨q0, q1, qP, va_K.moved (u := U) (U := U.calling g mk a) (Vm.Alike.refl U.vm) qK, qN.same rfl, qD⟩, fun U hU hW => ⟨rfl, by rw [hU], by rw [hU]; exact hPc, va_K.moved hW.alike hK, hN.warm hW, hDc.weaken (fun _ _ _ _ => trivial)⟩⟩ rfl rfl hl.1 rfl (lv_room (Nat.le_of_ble_eq_true rfl)) d_Mo_begin_1 ⟨Nat.zero_le _, Nat.zero_le _⟩) hS (fun q _ h => hFc q h) hFc (fun rr u t H1 locs ht hvm hw hB hz1 hk1 hS => ?_)
  replace hw := hw.symm
  subst hw
  obtain ⟨hP1, -, hD1⟩ := hB
  rw [ht] at hP1
  obtain ⟨hP, hD⟩ := va_join (wr := [(h_m, .inr (6, [.ref h_m_one, .ref h_m_two, .ref h_m_three, .ref h_m_four, .ref h_m_five, .ref h_m_six, .ref h_m_seven, .ref h_m_eight, .ref h_m_work, .ref h_m_small, .int m_rows, .int m_columns, .int m_prime, .ref h_m_pivots, .ref h_m_freeRows, .ref h_m_freeColumns, .ref h_m_minor, .ref h_m_smallMinor, .ref h_m_fields, .ref h_m_rowCounts, .ref h_m_elements, .ref h_m_numbers, .ref h_m_known, .ref h_m_ranks, .ref h_m_rankOf, .ref h_m_signOf, .ref h_m_order, .ref h_m_sizes, .ref h_m_coefficients, .ref h_m_choices, .ref h_m_sorted])), (h_m_fields, .inl (cI, m_fields_n, .inl m_fields)), (h_m_rowCounts, .inl (cI, m_rowCounts_n, .inl m_rowCounts)), (h_m_elements, .inl (cI, m_elements_n, .inl m_elements)), (h_m_known, .inl (cZ, m_known_n, .inl m_known)), (h_m_numbers, .inl (cI, m_numbers_n, .inl m_numbers))]) (w1 := []) hP hD [] [0, 1, 2, 3, 4, 5] rfl rfl (by decide) (by decide) hk1 hFc hP1 hD1
  generalize H1 = H at hP hS ⊢
  have hP : va_P (dC, dI) cl_all [(h_m, .inr (6, [.ref h_m_one, .ref h_m_two, .ref h_m_three, .ref h_m_four, .ref h_m_five, .ref h_m_six, .ref h_m_seven, .ref h_m_eight, .ref h_m_work, .ref h_m_small, .int m_rows, .int m_columns, .int m_prime, .ref h_m_pivots, .ref h_m_freeRows, .ref h_m_freeColumns, .ref h_m_minor, .ref h_m_smallMinor, .ref h_m_fields, .ref h_m_rowCounts, .ref h_m_elements, .ref h_m_numbers, .ref h_m_known, .ref h_m_ranks, .ref h_m_rankOf, .ref h_m_signOf, .ref h_m_order, .ref h_m_sizes, .ref h_m_coefficients, .ref h_m_choices, .ref h_m_sorted])), (h_m_fields, .inl (cI, m_fields_n, .inl m_fields)), (h_m_rowCounts, .inl (cI, m_rowCounts_n, .inl m_rowCounts)), (h_m_elements, .inl (cI, m_elements_n, .inl m_elements)), (h_m_known, .inl (cZ, m_known_n, .inl m_known)), (h_m_numbers, .inl (cI, m_numbers_n, .inl m_numbers))] H := hP.sub [0, 1, 2, 3, 4, 5] rfl
  have hD : va_D A [(h_m, .inr (6, [.ref h_m_one, .ref h_m_two, .ref h_m_three, .ref h_m_four, .ref h_m_five, .ref h_m_six, .ref h_m_seven, .ref h_m_eight, .ref h_m_work, .ref h_m_small, .int m_rows, .int m_columns, .int m_prime, .ref h_m_pivots, .ref h_m_freeRows, .ref h_m_freeColumns, .ref h_m_minor, .ref h_m_smallMinor, .ref h_m_fields, .ref h_m_rowCounts, .ref h_m_elements, .ref h_m_numbers, .ref h_m_known, .ref h_m_ranks, .ref h_m_rankOf, .ref h_m_signOf, .ref h_m_order, .ref h_m_sizes, .ref h_m_coefficients, .ref h_m_choices, .ref h_m_sorted])), (h_m_fields, .inl (cI, m_fields_n, .inl m_fields)), (h_m_rowCounts, .inl (cI, m_rowCounts_n, .inl m_rowCounts)), (h_m_elements, .inl (cI, m_elements_n, .inl m_elements)), (h_m_known, .inl (cZ, m_known_n, .inl m_known)), (h_m_numbers, .inl (cI, m_numbers_n, .inl m_numbers))] := hD.sub [0, 1, 2, 3, 4, 5] (by decide) rfl
  refine lv_if_eq (tgt := 36) hx hb d_Mo_begin_4 (by decide) (fun c_3 => ?_) (fun c_3 => ?_)
  · replace h := ck_if_t h c_3
    refine lv_iconst (v := 0) hx hb d_Mo_begin_36 (by decide) ?_
    obtain rfl := Option.some.inj h
    subst hQ
    exact W.zret (ty := .boolean) (v := 0) hx hb hr rfl (fun t ht hW => ⟨⟨0, (m_fields, m_rowCounts, m_elements, m_known, m_numbers), rfl, rfl, by rw [ht]; exact hP, va_K.moved hW.alike hK, hD⟩, hS.F ht⟩) hS.2.2 d_Mo_begin_37
  · replace h := ck_if_f h c_3
    refine lv_iload_n hx hb d_Mo_begin_7 rfl (lv_at hl 2 rfl) ?_
    obtain ⟨r_4, hc_5, h⟩ := ck_b1_s h
    have hPc := hP.sub (ws' := []) [] rfl
    have hDc := hD.sub (ws' := []) [] (by decide) rfl
    have hFc := va_free (wc := []) hD hS hA [] rfl
    refine va_calli (va_runS (As := [.int f0]) (rest := []) ⟨hx, hb, hml, hown, hts⟩ (c_R_isField l dC dI cI cJ cB cZ cT cN H.size f0 _ hc_5) (va_cwS 1 hts (tb_S tw_458 tw_459 tw_6 tw_460) rfl rfl rfl (by decide +kernel) ⟨Nat.le_of_ble_eq_true rfl, Nat.le_of_ble_eq_true rfl⟩) ⟨fun a U g mk q => by obtain ⟨q0, q1, qP, qK, qN, qD⟩ := q; exact ⟨q0, q1, qP, va_K.moved (u := U) (U := U.calling g mk a) (Vm.Alike.refl U.vm) qK, qN.same rfl, qD⟩, fun U hU hW => ⟨rfl, by rw [hU], by rw [hU]; exact hPc, va_K.moved hW.alike hK, hN.warm hW, hDc.weaken (fun _ _ _ _ => trivial)⟩⟩ rfl rfl hl.1 rfl (lv_room (Nat.le_of_ble_eq_true rfl)) d_Mo_begin_8 ⟨Nat.zero_le _, Nat.zero_le _⟩) hS (fun q _ h => hFc q h) hFc (fun rr u t H1 locs ht hvm hw hB hz1 hk1 hS => ?_)
    replace hw := hw.symm
    subst hw
    obtain ⟨hP1, -, hD1⟩ := hB
    rw [ht] at hP1
    obtain ⟨hP, hD⟩ := va_join (wr := [(h_m, .inr (6, [.ref h_m_one, .ref h_m_two, .ref h_m_three, .ref h_m_four, .ref h_m_five, .ref h_m_six, .ref h_m_seven, .ref h_m_eight, .ref h_m_work, .ref h_m_small, .int m_rows, .int m_columns, .int m_prime, .ref h_m_pivots, .ref h_m_freeRows, .ref h_m_freeColumns, .ref h_m_minor, .ref h_m_smallMinor, .ref h_m_fields, .ref h_m_rowCounts, .ref h_m_elements, .ref h_m_numbers, .ref h_m_known, .ref h_m_ranks, .ref h_m_rankOf, .ref h_m_signOf, .ref h_m_order, .ref h_m_sizes, .ref h_m_coefficients, .ref h_m_choices, .ref h_m_sorted])), (h_m_fields, .inl (cI, m_fields_n, .inl m_fields)), (h_m_rowCounts, .inl (cI, m_rowCounts_n, .inl m_rowCounts)), (h_m_elements, .inl (cI, m_elements_n, .inl m_elements)), (h_m_known, .inl (cZ, m_known_n, .inl m_known)), (h_m_numbers, .inl (cI, m_numbers_n, .inl m_numbers))]) (w1 := []) hP hD [] [0, 1, 2, 3, 4, 5] rfl rfl (by decide) (by decide) hk1 hFc hP1 hD1
    generalize H1 = H at hP hS ⊢
    have hP : va_P (dC, dI) cl_all [(h_m, .inr (6, [.ref h_m_one, .ref h_m_two, .ref h_m_three, .ref h_m_four, .ref h_m_five, .ref h_m_six, .ref h_m_seven, .ref h_m_eight, .ref h_m_work, .ref h_m_small, .int m_rows, .int m_columns, .int m_prime, .ref h_m_pivots, .ref h_m_freeRows, .ref h_m_freeColumns, .ref h_m_minor, .ref h_m_smallMinor, .ref h_m_fields, .ref h_m_rowCounts, .ref h_m_elements, .ref h_m_numbers, .ref h_m_known, .ref h_m_ranks, .ref h_m_rankOf, .ref h_m_signOf, .ref h_m_order, .ref h_m_sizes, .ref h_m_coefficients, .ref h_m_choices, .ref h_m_sorted])), (h_m_fields, .inl (cI, m_fields_n, .inl m_fields)), (h_m_rowCounts, .inl (cI, m_rowCounts_n, .inl m_rowCounts)), (h_m_elements, .inl (cI, m_elements_n, .inl m_elements)), (h_m_known, .inl (cZ, m_known_n, .inl m_known)), (h_m_numbers, .inl (cI, m_numbers_n, .inl m_numbers))] H := hP.sub [0, 1, 2, 3, 4, 5] rfl
    have hD : va_D A [(h_m, .inr (6, [.ref h_m_one, .ref h_m_two, .ref h_m_three, .ref h_m_four, .ref h_m_five, .ref h_m_six, .ref h_m_seven, .ref h_m_eight, .ref h_m_work, .ref h_m_small, .int m_rows, .int m_columns, .int m_prime, .ref h_m_pivots, .ref h_m_freeRows, .ref h_m_freeColumns, .ref h_m_minor, .ref h_m_smallMinor, .ref h_m_fields, .ref h_m_rowCounts, .ref h_m_elements, .ref h_m_numbers, .ref h_m_known, .ref h_m_ranks, .ref h_m_rankOf, .ref h_m_signOf, .ref h_m_order, .ref h_m_sizes, .ref h_m_coefficients, .ref h_m_choices, .ref h_m_sorted])), (h_m_fields, .inl (cI, m_fields_n, .inl m_fields)), (h_m_rowCounts, .inl (cI, m_rowCounts_n, .inl m_rowCounts)), (h_m_elements, .inl (cI, m_elements_n, .inl m_elements)), (h_m_known, .inl (cZ, m_known_n, .inl m_known)), (h_m_numbers, .inl (cI, m_numbers_n, .inl m_numbers))] := hD.sub [0, 1, 2, 3, 4, 5] (by decide) rfl
    refine lv_if_eq (tgt := 36) hx hb d_Mo_begin_11 (by decide) (fun c_6 => ?_) (fun c_6 => ?_)
    · replace h := ck_if_t h c_6
      refine lv_iconst (v := 0) hx hb d_Mo_begin_36 (by decide) ?_
      obtain rfl := Option.some.inj h
      subst hQ
      exact W.zret (ty := .boolean) (v := 0) hx hb hr rfl (fun t ht hW => ⟨⟨0, (m_fields, m_rowCounts, m_elements, m_known, m_numbers), rfl, rfl, by rw [ht]; exact hP, va_K.moved hW.alike hK, hD⟩, hS.F ht⟩) hS.2.2 d_Mo_begin_37
    · replace h := ck_if_f h c_6
      refine lv_iload_n hx hb d_Mo_begin_14 rfl (lv_at hl 3 rfl) ?_
      refine lv_if_lt (tgt := 36) hx hb d_Mo_begin_15 (by decide) (fun c_7 => ?_) (fun c_7 => ?_)
      · replace h := ck_if_t h c_7
        refine lv_iconst (v := 0) hx hb d_Mo_begin_36 (by decide) ?_
        obtain rfl := Option.some.inj h
        subst hQ
        exact W.zret (ty := .boolean) (v := 0) hx hb hr rfl (fun t ht hW => ⟨⟨0, (m_fields, m_rowCounts, m_elements, m_known, m_numbers), rfl, rfl, by rw [ht]; exact hP, va_K.moved hW.alike hK, hD⟩, hS.F ht⟩) hS.2.2 d_Mo_begin_37
      · replace h := ck_if_f h c_7
        refine lv_iload_n hx hb d_Mo_begin_18 rfl (lv_at hl 3 rfl) ?_
        refine lv_bipush (v := 12) hx hb d_Mo_begin_19 (by decide) ?_
        refine lv_icmp_gt (tgt := 36) hx hb d_Mo_begin_21 (by decide) (fun c_8 => ?_) (fun c_8 => ?_)
        · replace h := ck_if_t h c_8
          refine lv_iconst (v := 0) hx hb d_Mo_begin_36 (by decide) ?_
          obtain rfl := Option.some.inj h
          subst hQ
          exact W.zret (ty := .boolean) (v := 0) hx hb hr rfl (fun t ht hW => ⟨⟨0, (m_fields, m_rowCounts, m_elements, m_known, m_numbers), rfl, rfl, by rw [ht]; exact hP, va_K.moved hW.alike hK, hD⟩, hS.F ht⟩) hS.2.2 d_Mo_begin_37
        · replace h := ck_if_f h c_8
          refine lv_iload hx hb d_Mo_begin_24 (lv_at hl 4 rfl) ?_
          refine lv_if_lt (tgt := 36) hx hb d_Mo_begin_26 (by decide) (fun c_9 => ?_) (fun c_9 => ?_)
          · replace h := ck_if_t h c_9
            refine lv_iconst (v := 0) hx hb d_Mo_begin_36 (by decide) ?_
            obtain rfl := Option.some.inj h
            subst hQ
            exact W.zret (ty := .boolean) (v := 0) hx hb hr rfl (fun t ht hW => ⟨⟨0, (m_fields, m_rowCounts, m_elements, m_known, m_numbers), rfl, rfl, by rw [ht]; exact hP, va_K.moved hW.alike hK, hD⟩, hS.F ht⟩) hS.2.2 d_Mo_begin_37
          · replace h := ck_if_f h c_9
            refine lv_iload hx hb d_Mo_begin_29 (lv_at hl 4 rfl) ?_
            refine lv_bipush (v := 12) hx hb d_Mo_begin_31 (by decide) ?_
            refine lv_icmp_le (tgt := 38) hx hb d_Mo_begin_33 (by decide) (fun c_10 => ?_) (fun c_10 => ?_)
            · replace h := ck_if_t h c_10
              refine lv_aload_n hx hb d_Mo_begin_38 rfl (lv_at hl 0 rfl) ?_
              refine va_get (D := (dC, dI)) (ci := 6) (v := .ref h_m_fields) (C := "BasisWalkModel") (T := T_Mo) (N := 31) hx hb hts iw1 hown hK hP 0 rfl rfl 18 (by decide) fl0 (fun _ h9 => h9) rfl d_Mo_begin_39 ?_
              refine lv_iload_n hx hb d_Mo_begin_42 rfl (lv_at hl 1 rfl) ?_
              refine lv_iload_n hx hb d_Mo_begin_43 rfl (lv_at hl 2 rfl) ?_
              obtain ⟨g_11, h⟩ := ck_in_s h
              refine va_iast hx hb hK hP hD hS 1 0 rfl rfl g_11 d_Mo_begin_44 (fun H locs hP hD hS => ?_)
              have hP : va_P (dC, dI) cl_all [(h_m, .inr (6, [.ref h_m_one, .ref h_m_two, .ref h_m_three, .ref h_m_four, .ref h_m_five, .ref h_m_six, .ref h_m_seven, .ref h_m_eight, .ref h_m_work, .ref h_m_small, .int m_rows, .int m_columns, .int m_prime, .ref h_m_pivots, .ref h_m_freeRows, .ref h_m_freeColumns, .ref h_m_minor, .ref h_m_smallMinor, .ref h_m_fields, .ref h_m_rowCounts, .ref h_m_elements, .ref h_m_numbers, .ref h_m_known, .ref h_m_ranks, .ref h_m_rankOf, .ref h_m_signOf, .ref h_m_order, .ref h_m_sizes, .ref h_m_coefficients, .ref h_m_choices, .ref h_m_sorted])), (h_m_fields, .inl (cI, m_fields_n, .inl (upd m_fields t0.toNatClampNeg f0))), (h_m_rowCounts, .inl (cI, m_rowCounts_n, .inl m_rowCounts)), (h_m_elements, .inl (cI, m_elements_n, .inl m_elements)), (h_m_known, .inl (cZ, m_known_n, .inl m_known)), (h_m_numbers, .inl (cI, m_numbers_n, .inl m_numbers))] H := hP
              have hD : va_D A [(h_m, .inr (6, [.ref h_m_one, .ref h_m_two, .ref h_m_three, .ref h_m_four, .ref h_m_five, .ref h_m_six, .ref h_m_seven, .ref h_m_eight, .ref h_m_work, .ref h_m_small, .int m_rows, .int m_columns, .int m_prime, .ref h_m_pivots, .ref h_m_freeRows, .ref h_m_freeColumns, .ref h_m_minor, .ref h_m_smallMinor, .ref h_m_fields, .ref h_m_rowCounts, .ref h_m_elements, .ref h_m_numbers, .ref h_m_known, .ref h_m_ranks, .ref h_m_rankOf, .ref h_m_signOf, .ref h_m_order, .ref h_m_sizes, .ref h_m_coefficients, .ref h_m_choices, .ref h_m_sorted])), (h_m_fields, .inl (cI, m_fields_n, .inl (upd m_fields t0.toNatClampNeg f0))), (h_m_rowCounts, .inl (cI, m_rowCounts_n, .inl m_rowCounts)), (h_m_elements, .inl (cI, m_elements_n, .inl m_elements)), (h_m_known, .inl (cZ, m_known_n, .inl m_known)), (h_m_numbers, .inl (cI, m_numbers_n, .inl m_numbers))] := hD
              refine lv_aload_n hx hb d_Mo_begin_45 rfl (lv_at hl 0 rfl) ?_
              refine va_get (D := (dC, dI)) (ci := 6) (v := .ref h_m_rowCounts) (C := "BasisWalkModel") (T := T_Mo) (N := 31) hx hb hts iw1 hown hK hP 0 rfl rfl 19 (by decide) fl2 (fun _ h9 => h9) rfl d_Mo_begin_46 ?_
              refine lv_iload_n hx hb d_Mo_begin_49 rfl (lv_at hl 1 rfl) ?_
              refine lv_iload_n hx hb d_Mo_begin_50 rfl (lv_at hl 3 rfl) ?_
              obtain ⟨g_12, h⟩ := ck_in_s h
              refine va_iast hx hb hK hP hD hS 2 0 rfl rfl g_12 d_Mo_begin_51 (fun H locs hP hD hS => ?_)
              have hP : va_P (dC, dI) cl_all [(h_m, .inr (6, [.ref h_m_one, .ref h_m_two, .ref h_m_three, .ref h_m_four, .ref h_m_five, .ref h_m_six, .ref h_m_seven, .ref h_m_eight, .ref h_m_work, .ref h_m_small, .int m_rows, .int m_columns, .int m_prime, .ref h_m_pivots, .ref h_m_freeRows, .ref h_m_freeColumns, .ref h_m_minor, .ref h_m_smallMinor, .ref h_m_fields, .ref h_m_rowCounts, .ref h_m_elements, .ref h_m_numbers, .ref h_m_known, .ref h_m_ranks, .ref h_m_rankOf, .ref h_m_signOf, .ref h_m_order, .ref h_m_sizes, .ref h_m_coefficients, .ref h_m_choices, .ref h_m_sorted])), (h_m_fields, .inl (cI, m_fields_n, .inl (upd m_fields t0.toNatClampNeg f0))), (h_m_rowCounts, .inl (cI, m_rowCounts_n, .inl (upd m_rowCounts t0.toNatClampNeg r0))), (h_m_elements, .inl (cI, m_elements_n, .inl m_elements)), (h_m_known, .inl (cZ, m_known_n, .inl m_known)), (h_m_numbers, .inl (cI, m_numbers_n, .inl m_numbers))] H := hP
              have hD : va_D A [(h_m, .inr (6, [.ref h_m_one, .ref h_m_two, .ref h_m_three, .ref h_m_four, .ref h_m_five, .ref h_m_six, .ref h_m_seven, .ref h_m_eight, .ref h_m_work, .ref h_m_small, .int m_rows, .int m_columns, .int m_prime, .ref h_m_pivots, .ref h_m_freeRows, .ref h_m_freeColumns, .ref h_m_minor, .ref h_m_smallMinor, .ref h_m_fields, .ref h_m_rowCounts, .ref h_m_elements, .ref h_m_numbers, .ref h_m_known, .ref h_m_ranks, .ref h_m_rankOf, .ref h_m_signOf, .ref h_m_order, .ref h_m_sizes, .ref h_m_coefficients, .ref h_m_choices, .ref h_m_sorted])), (h_m_fields, .inl (cI, m_fields_n, .inl (upd m_fields t0.toNatClampNeg f0))), (h_m_rowCounts, .inl (cI, m_rowCounts_n, .inl (upd m_rowCounts t0.toNatClampNeg r0))), (h_m_elements, .inl (cI, m_elements_n, .inl m_elements)), (h_m_known, .inl (cZ, m_known_n, .inl m_known)), (h_m_numbers, .inl (cI, m_numbers_n, .inl m_numbers))] := hD
              refine lv_aload_n hx hb d_Mo_begin_52 rfl (lv_at hl 0 rfl) ?_
              refine va_get (D := (dC, dI)) (ci := 6) (v := .ref h_m_elements) (C := "BasisWalkModel") (T := T_Mo) (N := 31) hx hb hts iw1 hown hK hP 0 rfl rfl 20 (by decide) fl3 (fun _ h9 => h9) rfl d_Mo_begin_53 ?_
              refine lv_iload_n hx hb d_Mo_begin_56 rfl (lv_at hl 1 rfl) ?_
              refine lv_iload hx hb d_Mo_begin_57 (lv_at hl 4 rfl) ?_
              obtain ⟨g_13, h⟩ := ck_in_s h
              refine va_iast hx hb hK hP hD hS 3 0 rfl rfl g_13 d_Mo_begin_59 (fun H locs hP hD hS => ?_)
              have hP : va_P (dC, dI) cl_all [(h_m, .inr (6, [.ref h_m_one, .ref h_m_two, .ref h_m_three, .ref h_m_four, .ref h_m_five, .ref h_m_six, .ref h_m_seven, .ref h_m_eight, .ref h_m_work, .ref h_m_small, .int m_rows, .int m_columns, .int m_prime, .ref h_m_pivots, .ref h_m_freeRows, .ref h_m_freeColumns, .ref h_m_minor, .ref h_m_smallMinor, .ref h_m_fields, .ref h_m_rowCounts, .ref h_m_elements, .ref h_m_numbers, .ref h_m_known, .ref h_m_ranks, .ref h_m_rankOf, .ref h_m_signOf, .ref h_m_order, .ref h_m_sizes, .ref h_m_coefficients, .ref h_m_choices, .ref h_m_sorted])), (h_m_fields, .inl (cI, m_fields_n, .inl (upd m_fields t0.toNatClampNeg f0))), (h_m_rowCounts, .inl (cI, m_rowCounts_n, .inl (upd m_rowCounts t0.toNatClampNeg r0))), (h_m_elements, .inl (cI, m_elements_n, .inl (upd m_elements t0.toNatClampNeg c0))), (h_m_known, .inl (cZ, m_known_n, .inl m_known)), (h_m_numbers, .inl (cI, m_numbers_n, .inl m_numbers))] H := hP
              have hD : va_D A [(h_m, .inr (6, [.ref h_m_one, .ref h_m_two, .ref h_m_three, .ref h_m_four, .ref h_m_five, .ref h_m_six, .ref h_m_seven, .ref h_m_eight, .ref h_m_work, .ref h_m_small, .int m_rows, .int m_columns, .int m_prime, .ref h_m_pivots, .ref h_m_freeRows, .ref h_m_freeColumns, .ref h_m_minor, .ref h_m_smallMinor, .ref h_m_fields, .ref h_m_rowCounts, .ref h_m_elements, .ref h_m_numbers, .ref h_m_known, .ref h_m_ranks, .ref h_m_rankOf, .ref h_m_signOf, .ref h_m_order, .ref h_m_sizes, .ref h_m_coefficients, .ref h_m_choices, .ref h_m_sorted])), (h_m_fields, .inl (cI, m_fields_n, .inl (upd m_fields t0.toNatClampNeg f0))), (h_m_rowCounts, .inl (cI, m_rowCounts_n, .inl (upd m_rowCounts t0.toNatClampNeg r0))), (h_m_elements, .inl (cI, m_elements_n, .inl (upd m_elements t0.toNatClampNeg c0))), (h_m_known, .inl (cZ, m_known_n, .inl m_known)), (h_m_numbers, .inl (cI, m_numbers_n, .inl m_numbers))] := hD
              refine lv_aload_n hx hb d_Mo_begin_60 rfl (lv_at hl 0 rfl) ?_
              refine va_get (D := (dC, dI)) (ci := 6) (v := .ref h_m_known) (C := "BasisWalkModel") (T := T_Mo) (N := 31) hx hb hts iw1 hown hK hP 0 rfl rfl 22 (by decide) fl4 (fun _ h9 => h9) rfl d_Mo_begin_61 ?_
              refine lv_iload_n hx hb d_Mo_begin_64 rfl (lv_at hl 1 rfl) ?_
              refine lv_iconst (v := 0) hx hb d_Mo_begin_65 (by decide) ?_
              obtain ⟨g_14, h⟩ := ck_in_s h
              refine va_zast hx hb hK hP hD hS 4 3 rfl rfl g_14 d_Mo_begin_66 (fun H locs hP hD hS => ?_)
              have hP : va_P (dC, dI) cl_all [(h_m, .inr (6, [.ref h_m_one, .ref h_m_two, .ref h_m_three, .ref h_m_four, .ref h_m_five, .ref h_m_six, .ref h_m_seven, .ref h_m_eight, .ref h_m_work, .ref h_m_small, .int m_rows, .int m_columns, .int m_prime, .ref h_m_pivots, .ref h_m_freeRows, .ref h_m_freeColumns, .ref h_m_minor, .ref h_m_smallMinor, .ref h_m_fields, .ref h_m_rowCounts, .ref h_m_elements, .ref h_m_numbers, .ref h_m_known, .ref h_m_ranks, .ref h_m_rankOf, .ref h_m_signOf, .ref h_m_order, .ref h_m_sizes, .ref h_m_coefficients, .ref h_m_choices, .ref h_m_sorted])), (h_m_fields, .inl (cI, m_fields_n, .inl (upd m_fields t0.toNatClampNeg f0))), (h_m_rowCounts, .inl (cI, m_rowCounts_n, .inl (upd m_rowCounts t0.toNatClampNeg r0))), (h_m_elements, .inl (cI, m_elements_n, .inl (upd m_elements t0.toNatClampNeg c0))), (h_m_known, .inl (cZ, m_known_n, .inl (upd m_known t0.toNatClampNeg (vp_nar .boolean 0)))), (h_m_numbers, .inl (cI, m_numbers_n, .inl m_numbers))] H := hP
              have hD : va_D A [(h_m, .inr (6, [.ref h_m_one, .ref h_m_two, .ref h_m_three, .ref h_m_four, .ref h_m_five, .ref h_m_six, .ref h_m_seven, .ref h_m_eight, .ref h_m_work, .ref h_m_small, .int m_rows, .int m_columns, .int m_prime, .ref h_m_pivots, .ref h_m_freeRows, .ref h_m_freeColumns, .ref h_m_minor, .ref h_m_smallMinor, .ref h_m_fields, .ref h_m_rowCounts, .ref h_m_elements, .ref h_m_numbers, .ref h_m_known, .ref h_m_ranks, .ref h_m_rankOf, .ref h_m_signOf, .ref h_m_order, .ref h_m_sizes, .ref h_m_coefficients, .ref h_m_choices, .ref h_m_sorted])), (h_m_fields, .inl (cI, m_fields_n, .inl (upd m_fields t0.toNatClampNeg f0))), (h_m_rowCounts, .inl (cI, m_rowCounts_n, .inl (upd m_rowCounts t0.toNatClampNeg r0))), (h_m_elements, .inl (cI, m_elements_n, .inl (upd m_elements t0.toNatClampNeg c0))), (h_m_known, .inl (cZ, m_known_n, .inl (upd m_known t0.toNatClampNeg (vp_nar .boolean 0)))), (h_m_numbers, .inl (cI, m_numbers_n, .inl m_numbers))] := hD
              refine lv_iconst (v := 0) hx hb d_Mo_begin_67 (by decide) ?_
              refine lv_istore (lv' := [(5, .int 0), (0, .ref h_m), (1, .int t0), (2, .int f0), (3, .int r0), (4, .int c0)]) hx hb d_Mo_begin_68 hl (by decide) rfl (fun ls hl => ?_)
              refine lo2_W (r := r) (fun (v5_15 : Int32) (w_16 : Nat → Int32) => ∀ (H : Heap) (locs : List Loc), va_P (dC, dI) cl_all [(h_m, .inr (6, [.ref h_m_one, .ref h_m_two, .ref h_m_three, .ref h_m_four, .ref h_m_five, .ref h_m_six, .ref h_m_seven, .ref h_m_eight, .ref h_m_work, .ref h_m_small, .int m_rows, .int m_columns, .int m_prime, .ref h_m_pivots, .ref h_m_freeRows, .ref h_m_freeColumns, .ref h_m_minor, .ref h_m_smallMinor, .ref h_m_fields, .ref h_m_rowCounts, .ref h_m_elements, .ref h_m_numbers, .ref h_m_known, .ref h_m_ranks, .ref h_m_rankOf, .ref h_m_signOf, .ref h_m_order, .ref h_m_sizes, .ref h_m_coefficients, .ref h_m_choices, .ref h_m_sorted])), (h_m_fields, .inl (cI, m_fields_n, .inl (upd m_fields t0.toNatClampNeg f0))), (h_m_rowCounts, .inl (cI, m_rowCounts_n, .inl (upd m_rowCounts t0.toNatClampNeg r0))), (h_m_elements, .inl (cI, m_elements_n, .inl (upd m_elements t0.toNatClampNeg c0))), (h_m_known, .inl (cZ, m_known_n, .inl (upd m_known t0.toNatClampNeg (vp_nar .boolean 0)))), (h_m_numbers, .inl (cI, m_numbers_n, .inl w_16))] H → va_D A [(h_m, .inr (6, [.ref h_m_one, .ref h_m_two, .ref h_m_three, .ref h_m_four, .ref h_m_five, .ref h_m_six, .ref h_m_seven, .ref h_m_eight, .ref h_m_work, .ref h_m_small, .int m_rows, .int m_columns, .int m_prime, .ref h_m_pivots, .ref h_m_freeRows, .ref h_m_freeColumns, .ref h_m_minor, .ref h_m_smallMinor, .ref h_m_fields, .ref h_m_rowCounts, .ref h_m_elements, .ref h_m_numbers, .ref h_m_known, .ref h_m_ranks, .ref h_m_rankOf, .ref h_m_signOf, .ref h_m_order, .ref h_m_sizes, .ref h_m_coefficients, .ref h_m_choices, .ref h_m_sorted])), (h_m_fields, .inl (cI, m_fields_n, .inl (upd m_fields t0.toNatClampNeg f0))), (h_m_rowCounts, .inl (cI, m_rowCounts_n, .inl (upd m_rowCounts t0.toNatClampNeg r0))), (h_m_elements, .inl (cI, m_elements_n, .inl (upd m_elements t0.toNatClampNeg c0))), (h_m_known, .inl (cZ, m_known_n, .inl (upd m_known t0.toNatClampNeg (vp_nar .boolean 0)))), (h_m_numbers, .inl (cI, m_numbers_n, .inl w_16))] → va_S A s.heap H locs → ∀ ls : Array Slot, lv_has ls 6 [(0, .ref h_m), (1, .int t0), (5, .int v5_15)] → W p l e ({ frames := 1, cells := 0, slots := 0, locals := 22 } : Room) s m AR below meth c H locs 0 0 QQ (F0 m 70 ls [])) ?_ _ _ _ h _ _ hP hD hS _ (lv_sub hl [1, 2, 0] rfl)
              intro k_70 v5_15 w_16 J_70 h H locs hP hD hS ls hl
              refine lv_iload hx hb d_Mo_begin_70 (lv_at hl 2 rfl) ?_
              refine lv_sipush (v := 144) hx hb d_Mo_begin_72 (by decide) ?_
              refine lv_icmp_ge (tgt := 98) hx hb d_Mo_begin_75 (by decide) (fun c_17 => ?_) (fun c_17 => ?_)
              · replace h := ck_if_t h c_17
                refine lv_iconst (v := 1) hx hb d_Mo_begin_98 (by decide) ?_
                obtain rfl := Option.some.inj h
                subst hQ
                exact W.zret (ty := .boolean) (v := 1) hx hb hr rfl (fun t ht hW => ⟨⟨1, ((upd m_fields t0.toNatClampNeg f0), (upd m_rowCounts t0.toNatClampNeg r0), (upd m_elements t0.toNatClampNeg c0), (upd m_known t0.toNatClampNeg (vp_nar .boolean 0)), w_16), rfl, rfl, by rw [ht]; exact hP, va_K.moved hW.alike hK, hD⟩, hS.F ht⟩) hS.2.2 d_Mo_begin_99
              · replace h := ck_if_f h c_17
                refine lv_aload_n hx hb d_Mo_begin_78 rfl (lv_at hl 0 rfl) ?_
                refine va_get (D := (dC, dI)) (ci := 6) (v := .ref h_m_numbers) (C := "BasisWalkModel") (T := T_Mo) (N := 31) hx hb hts iw1 hown hK hP 0 rfl rfl 21 (by decide) fl5 (fun _ h9 => h9) rfl d_Mo_begin_79 ?_
                refine lv_sipush (v := 144) hx hb d_Mo_begin_82 (by decide) ?_
                refine lv_iload_n hx hb d_Mo_begin_85 rfl (lv_at hl 1 rfl) ?_
                refine lv_imul hx hb d_Mo_begin_86 ?_
                refine lv_iload hx hb d_Mo_begin_87 (lv_at hl 2 rfl) ?_
                refine lv_iadd hx hb d_Mo_begin_89 ?_
                refine lv_iconst (v := 0) hx hb d_Mo_begin_90 (by decide) ?_
                obtain ⟨g_18, h⟩ := ck_in_s h
                refine va_iast hx hb hK hP hD hS 5 0 rfl rfl g_18 d_Mo_begin_91 (fun H locs hP hD hS => ?_)
                have hP : va_P (dC, dI) cl_all [(h_m, .inr (6, [.ref h_m_one, .ref h_m_two, .ref h_m_three, .ref h_m_four, .ref h_m_five, .ref h_m_six, .ref h_m_seven, .ref h_m_eight, .ref h_m_work, .ref h_m_small, .int m_rows, .int m_columns, .int m_prime, .ref h_m_pivots, .ref h_m_freeRows, .ref h_m_freeColumns, .ref h_m_minor, .ref h_m_smallMinor, .ref h_m_fields, .ref h_m_rowCounts, .ref h_m_elements, .ref h_m_numbers, .ref h_m_known, .ref h_m_ranks, .ref h_m_rankOf, .ref h_m_signOf, .ref h_m_order, .ref h_m_sizes, .ref h_m_coefficients, .ref h_m_choices, .ref h_m_sorted])), (h_m_fields, .inl (cI, m_fields_n, .inl (upd m_fields t0.toNatClampNeg f0))), (h_m_rowCounts, .inl (cI, m_rowCounts_n, .inl (upd m_rowCounts t0.toNatClampNeg r0))), (h_m_elements, .inl (cI, m_elements_n, .inl (upd m_elements t0.toNatClampNeg c0))), (h_m_known, .inl (cZ, m_known_n, .inl (upd m_known t0.toNatClampNeg (vp_nar .boolean 0)))), (h_m_numbers, .inl (cI, m_numbers_n, .inl (upd w_16 ((144 * t0) + v5_15).toNatClampNeg 0)))] H := hP
                have hD : va_D A [(h_m, .inr (6, [.ref h_m_one, .ref h_m_two, .ref h_m_three, .ref h_m_four, .ref h_m_five, .ref h_m_six, .ref h_m_seven, .ref h_m_eight, .ref h_m_work, .ref h_m_small, .int m_rows, .int m_columns, .int m_prime, .ref h_m_pivots, .ref h_m_freeRows, .ref h_m_freeColumns, .ref h_m_minor, .ref h_m_smallMinor, .ref h_m_fields, .ref h_m_rowCounts, .ref h_m_elements, .ref h_m_numbers, .ref h_m_known, .ref h_m_ranks, .ref h_m_rankOf, .ref h_m_signOf, .ref h_m_order, .ref h_m_sizes, .ref h_m_coefficients, .ref h_m_choices, .ref h_m_sorted])), (h_m_fields, .inl (cI, m_fields_n, .inl (upd m_fields t0.toNatClampNeg f0))), (h_m_rowCounts, .inl (cI, m_rowCounts_n, .inl (upd m_rowCounts t0.toNatClampNeg r0))), (h_m_elements, .inl (cI, m_elements_n, .inl (upd m_elements t0.toNatClampNeg c0))), (h_m_known, .inl (cZ, m_known_n, .inl (upd m_known t0.toNatClampNeg (vp_nar .boolean 0)))), (h_m_numbers, .inl (cI, m_numbers_n, .inl (upd w_16 ((144 * t0) + v5_15).toNatClampNeg 0)))] := hD
                obtain ⟨x_19, ex_19⟩ : ∃ y : Int32, y = v5_15 + 1 := ⟨_, rfl⟩
                replace h := ck_nm_s h ex_19
                refine lv_iinc (v := x_19) (lv' := [(5, .int x_19), (0, .ref h_m), (1, .int t0)]) hx hb d_Mo_begin_92 hl (k := 2) rfl (by rw [ex_19]; rfl) (by decide) rfl (fun ls hl => ?_)
                refine lv_goto (tgt := 70) hx hb d_Mo_begin_95 (by decide) ?_
                exact J_70 _ _ h _ _ hP hD hS _ (lv_sub hl [1, 2, 0] rfl)
            · replace h := ck_if_f h c_10
              refine lv_iconst (v := 0) hx hb d_Mo_begin_36 (by decide) ?_
              obtain rfl := Option.some.inj h
              subst hQ
              exact W.zret (ty := .boolean) (v := 0) hx hb hr rfl (fun t ht hW => ⟨⟨0, (m_fields, m_rowCounts, m_elements, m_known, m_numbers), rfl, rfl, by rw [ht]; exact hP, va_K.moved hW.alike hK, hD⟩, hS.F ht⟩) hS.2.2 d_Mo_begin_37
theorem d_Mo_put_0 : decode prog_7_method_23_code 0 = .ok (.iload_n 1, 1) := by decide +kernel
theorem d_Mo_put_1 : decode prog_7_method_23_code 1 = .ok (.invokestatic 199, 3) := by decide +kernel
theorem d_Mo_put_4 : decode prog_7_method_23_code 4 = .ok (.ifCond .eq 47, 3) := by decide +kernel
theorem d_Mo_put_7 : decode prog_7_method_23_code 7 = .ok (.iload_n 2, 1) := by decide +kernel
theorem d_Mo_put_8 : decode prog_7_method_23_code 8 = .ok (.ifCond .lt 43, 3) := by decide +kernel
theorem d_Mo_put_11 : decode prog_7_method_23_code 11 = .ok (.iload_n 2, 1) := by decide +kernel
theorem d_Mo_put_12 : decode prog_7_method_23_code 12 = .ok (.aload_n 0, 1) := by decide +kernel
theorem d_Mo_put_13 : decode prog_7_method_23_code 13 = .ok (.getfield 156, 3) := by decide +kernel
theorem d_Mo_put_16 : decode prog_7_method_23_code 16 = .ok (.iload_n 1, 1) := by decide +kernel
theorem d_Mo_put_17 : decode prog_7_method_23_code 17 = .ok (.iaload, 1) := by decide +kernel
theorem d_Mo_put_18 : decode prog_7_method_23_code 18 = .ok (.if_icmp .ge 33, 3) := by decide +kernel
theorem d_Mo_put_21 : decode prog_7_method_23_code 21 = .ok (.iload_n 3, 1) := by decide +kernel
theorem d_Mo_put_22 : decode prog_7_method_23_code 22 = .ok (.ifCond .lt 29, 3) := by decide +kernel
theorem d_Mo_put_25 : decode prog_7_method_23_code 25 = .ok (.iload_n 3, 1) := by decide +kernel
theorem d_Mo_put_26 : decode prog_7_method_23_code 26 = .ok (.aload_n 0, 1) := by decide +kernel
theorem d_Mo_put_27 : decode prog_7_method_23_code 27 = .ok (.getfield 159, 3) := by decide +kernel
theorem d_Mo_put_30 : decode prog_7_method_23_code 30 = .ok (.iload_n 1, 1) := by decide +kernel
theorem d_Mo_put_31 : decode prog_7_method_23_code 31 = .ok (.iaload, 1) := by decide +kernel
theorem d_Mo_put_32 : decode prog_7_method_23_code 32 = .ok (.if_icmp .ge 19, 3) := by decide +kernel
theorem d_Mo_put_35 : decode prog_7_method_23_code 35 = .ok (.iload 4, 2) := by decide +kernel
theorem d_Mo_put_37 : decode prog_7_method_23_code 37 = .ok (.sipush (-999), 3) := by decide +kernel
theorem d_Mo_put_40 : decode prog_7_method_23_code 40 = .ok (.if_icmp .lt 11, 3) := by decide +kernel
theorem d_Mo_put_43 : decode prog_7_method_23_code 43 = .ok (.iload 4, 2) := by decide +kernel
theorem d_Mo_put_45 : decode prog_7_method_23_code 45 = .ok (.sipush 999, 3) := by decide +kernel
theorem d_Mo_put_48 : decode prog_7_method_23_code 48 = .ok (.if_icmp .le 5, 3) := by decide +kernel
theorem d_Mo_put_51 : decode prog_7_method_23_code 51 = .ok (.iconst 0, 1) := by decide +kernel
theorem d_Mo_put_52 : decode prog_7_method_23_code 52 = .ok (.ireturn, 1) := by decide +kernel
theorem d_Mo_put_53 : decode prog_7_method_23_code 53 = .ok (.aload_n 0, 1) := by decide +kernel
theorem d_Mo_put_54 : decode prog_7_method_23_code 54 = .ok (.getfield 162, 3) := by decide +kernel
theorem d_Mo_put_57 : decode prog_7_method_23_code 57 = .ok (.sipush 144, 3) := by decide +kernel
theorem d_Mo_put_60 : decode prog_7_method_23_code 60 = .ok (.iload_n 1, 1) := by decide +kernel
theorem d_Mo_put_61 : decode prog_7_method_23_code 61 = .ok (.imul, 1) := by decide +kernel
theorem d_Mo_put_62 : decode prog_7_method_23_code 62 = .ok (.bipush 12, 2) := by decide +kernel
theorem d_Mo_put_64 : decode prog_7_method_23_code 64 = .ok (.iload_n 2, 1) := by decide +kernel
theorem d_Mo_put_65 : decode prog_7_method_23_code 65 = .ok (.imul, 1) := by decide +kernel
theorem d_Mo_put_66 : decode prog_7_method_23_code 66 = .ok (.iadd, 1) := by decide +kernel
theorem d_Mo_put_67 : decode prog_7_method_23_code 67 = .ok (.iload_n 3, 1) := by decide +kernel
theorem d_Mo_put_68 : decode prog_7_method_23_code 68 = .ok (.iadd, 1) := by decide +kernel
theorem d_Mo_put_69 : decode prog_7_method_23_code 69 = .ok (.iload 4, 2) := by decide +kernel
theorem d_Mo_put_71 : decode prog_7_method_23_code 71 = .ok (.iastore, 1) := by decide +kernel
theorem d_Mo_put_72 : decode prog_7_method_23_code 72 = .ok (.aload_n 0, 1) := by decide +kernel
theorem d_Mo_put_73 : decode prog_7_method_23_code 73 = .ok (.getfield 165, 3) := by decide +kernel
theorem d_Mo_put_76 : decode prog_7_method_23_code 76 = .ok (.iload_n 1, 1) := by decide +kernel
theorem d_Mo_put_77 : decode prog_7_method_23_code 77 = .ok (.iconst 0, 1) := by decide +kernel
theorem d_Mo_put_78 : decode prog_7_method_23_code 78 = .ok (.bastore, 1) := by decide +kernel
theorem d_Mo_put_79 : decode prog_7_method_23_code 79 = .ok (.iconst 1, 1) := by decide +kernel
theorem d_Mo_put_80 : decode prog_7_method_23_code 80 = .ok (.ireturn, 1) := by decide +kernel
def f_R_put (m_rowCounts_n : Nat) (m_rowCounts : Nat → Int32) (m_elements_n : Nat) (m_elements : Nat → Int32) (m_known_n : Nat) (m_known : Nat → Int32) (m_numbers_n : Nat) (m_numbers : Nat → Int32) (t0 : Int32) (r0 : Int32) (c0 : Int32) (v0 : Int32) : Option (Int32 × (Nat → Int32) × (Nat → Int32)) :=
  ck_b1 (f_R_isTable t0) <| fun r_1 => ck_if (r_1 = 0) (some (0, m_known, m_numbers)) (ck_if (r0 < 0) (some (0, m_known, m_numbers)) (ck_in t0 m_rowCounts_n <| ck_if ((m_rowCounts t0.toNatClampNeg) ≤ r0) (some (0, m_known, m_numbers)) (ck_if (c0 < 0) (some (0, m_known, m_numbers)) (ck_in t0 m_elements_n <| ck_if ((m_elements t0.toNatClampNeg) ≤ c0) (some (0, m_known, m_numbers)) (ck_if (v0 < (-999)) (some (0, m_known, m_numbers)) (ck_if (v0 ≤ 999) (ck_in (((144 * t0) + (12 * r0)) + c0) m_numbers_n <| ck_in t0 m_known_n <| some (1, (upd m_known t0.toNatClampNeg (vp_nar .boolean 0)), (upd m_numbers (((144 * t0) + (12 * r0)) + c0).toNatClampNeg v0))) (some (0, m_known, m_numbers))))))))
set_option maxHeartbeats 4000000 in
set_option maxRecDepth 100000 in
theorem c_R_put (l : Launch) (dC : Nat → ClassId) (dI : Nat → Nat → Nat) (cI cJ cB cZ cT cN : ClassId) (sz : Nat) (h_m : Nat) (h_m_one : Nat) (h_m_two : Nat) (h_m_three : Nat) (h_m_four : Nat) (h_m_five : Nat) (h_m_six : Nat) (h_m_seven : Nat) (h_m_eight : Nat) (h_m_work : Nat) (h_m_small : Nat) (h_m_pivots : Nat) (h_m_freeRows : Nat) (h_m_freeColumns : Nat) (h_m_minor : Nat) (h_m_smallMinor : Nat) (h_m_fields : Nat) (h_m_rowCounts : Nat) (h_m_elements : Nat) (h_m_numbers : Nat) (h_m_known : Nat) (h_m_ranks : Nat) (h_m_rankOf : Nat) (h_m_signOf : Nat) (h_m_order : Nat) (h_m_sizes : Nat) (h_m_coefficients : Nat) (h_m_choices : Nat) (h_m_sorted : Nat) (m_rows : Int32) (m_columns : Int32) (m_prime : Int32) (m_rowCounts_n : Nat) (m_rowCounts : Nat → Int32) (m_elements_n : Nat) (m_elements : Nat → Int32) (m_known_n : Nat) (m_known : Nat → Int32) (m_numbers_n : Nat) (m_numbers : Nat → Int32) (t0 : Int32) (r0 : Int32) (c0 : Int32) (v0 : Int32) (r : Int32 × (Nat → Int32) × (Nat → Int32)) (h : f_R_put m_rowCounts_n m_rowCounts m_elements_n m_elements m_known_n m_known m_numbers_n m_numbers t0 r0 c0 v0 = some r) : Met l y_Mo_put w_Mo_put ({ frames := 1, cells := 0, slots := 0, locals := 20 } : Room) (va_Pc [.ref h_m, .int t0, .int r0, .int c0, .int v0] (fun U => U.heap.size = sz ∧ va_P (dC, dI) cl_all [(h_m, .inr (6, [.ref h_m_one, .ref h_m_two, .ref h_m_three, .ref h_m_four, .ref h_m_five, .ref h_m_six, .ref h_m_seven, .ref h_m_eight, .ref h_m_work, .ref h_m_small, .int m_rows, .int m_columns, .int m_prime, .ref h_m_pivots, .ref h_m_freeRows, .ref h_m_freeColumns, .ref h_m_minor, .ref h_m_smallMinor, .ref h_m_fields, .ref h_m_rowCounts, .ref h_m_elements, .ref h_m_numbers, .ref h_m_known, .ref h_m_ranks, .ref h_m_rankOf, .ref h_m_signOf, .ref h_m_order, .ref h_m_sizes, .ref h_m_coefficients, .ref h_m_choices, .ref h_m_sorted])), (h_m_rowCounts, .inl (cI, m_rowCounts_n, .inl m_rowCounts)), (h_m_elements, .inl (cI, m_elements_n, .inl m_elements)), (h_m_known, .inl (cZ, m_known_n, .inl m_known)), (h_m_numbers, .inl (cI, m_numbers_n, .inl m_numbers))] U.heap ∧ va_K (dC, dI) cl_all [(cI, .int), (cJ, .long), (cB, .byte), (cZ, .boolean), (cT, .object "BasisWalk$Table"), (cN, .object "BasisWalkModel$Num")] U ∧ NW U ∧ va_D (fun _ => True) [(h_m, .inr (6, [.ref h_m_one, .ref h_m_two, .ref h_m_three, .ref h_m_four, .ref h_m_five, .ref h_m_six, .ref h_m_seven, .ref h_m_eight, .ref h_m_work, .ref h_m_small, .int m_rows, .int m_columns, .int m_prime, .ref h_m_pivots, .ref h_m_freeRows, .ref h_m_freeColumns, .ref h_m_minor, .ref h_m_smallMinor, .ref h_m_fields, .ref h_m_rowCounts, .ref h_m_elements, .ref h_m_numbers, .ref h_m_known, .ref h_m_ranks, .ref h_m_rankOf, .ref h_m_signOf, .ref h_m_order, .ref h_m_sizes, .ref h_m_coefficients, .ref h_m_choices, .ref h_m_sorted])), (h_m_rowCounts, .inl (cI, m_rowCounts_n, .inl m_rowCounts)), (h_m_elements, .inl (cI, m_elements_n, .inl m_elements)), (h_m_known, .inl (cZ, m_known_n, .inl m_known)), (h_m_numbers, .inl (cI, m_numbers_n, .inl m_numbers))])) (va_Qi (fun (v : Int32) (u : (Nat → Int32) × (Nat → Int32)) => (v, u) = r) (fun (u : (Nat → Int32) × (Nat → Int32)) (t : State) => va_P (dC, dI) cl_all [(h_m, .inr (6, [.ref h_m_one, .ref h_m_two, .ref h_m_three, .ref h_m_four, .ref h_m_five, .ref h_m_six, .ref h_m_seven, .ref h_m_eight, .ref h_m_work, .ref h_m_small, .int m_rows, .int m_columns, .int m_prime, .ref h_m_pivots, .ref h_m_freeRows, .ref h_m_freeColumns, .ref h_m_minor, .ref h_m_smallMinor, .ref h_m_fields, .ref h_m_rowCounts, .ref h_m_elements, .ref h_m_numbers, .ref h_m_known, .ref h_m_ranks, .ref h_m_rankOf, .ref h_m_signOf, .ref h_m_order, .ref h_m_sizes, .ref h_m_coefficients, .ref h_m_choices, .ref h_m_sorted])), (h_m_rowCounts, .inl (cI, m_rowCounts_n, .inl m_rowCounts)), (h_m_elements, .inl (cI, m_elements_n, .inl m_elements)), (h_m_known, .inl (cZ, m_known_n, .inl u.1)), (h_m_numbers, .inl (cI, m_numbers_n, .inl u.2))] t.heap ∧ va_K (dC, dI) cl_all [(cI, .int), (cJ, .long), (cB, .byte), (cZ, .boolean), (cT, .object "BasisWalk$Table"), (cN, .object "BasisWalkModel$Num")] t ∧ va_D (va_A [(h_m, .inr (6, [.ref h_m_one, .ref h_m_two, .ref h_m_three, .ref h_m_four, .ref h_m_five, .ref h_m_six, .ref h_m_seven, .ref h_m_eight, .ref h_m_work, .ref h_m_small, .int m_rows, .int m_columns, .int m_prime, .ref h_m_pivots, .ref h_m_freeRows, .ref h_m_freeColumns, .ref h_m_minor, .ref h_m_smallMinor, .ref h_m_fields, .ref h_m_rowCounts, .ref h_m_elements, .ref h_m_numbers, .ref h_m_known, .ref h_m_ranks, .ref h_m_rankOf, .ref h_m_signOf, .ref h_m_order, .ref h_m_sizes, .ref h_m_coefficients, .ref h_m_choices, .ref h_m_sorted])), (h_m_rowCounts, .inl (cI, m_rowCounts_n, .inl m_rowCounts)), (h_m_elements, .inl (cI, m_elements_n, .inl m_elements)), (h_m_known, .inl (cZ, m_known_n, .inl m_known)), (h_m_numbers, .inl (cI, m_numbers_n, .inl m_numbers))] sz) [(h_m, .inr (6, [.ref h_m_one, .ref h_m_two, .ref h_m_three, .ref h_m_four, .ref h_m_five, .ref h_m_six, .ref h_m_seven, .ref h_m_eight, .ref h_m_work, .ref h_m_small, .int m_rows, .int m_columns, .int m_prime, .ref h_m_pivots, .ref h_m_freeRows, .ref h_m_freeColumns, .ref h_m_minor, .ref h_m_smallMinor, .ref h_m_fields, .ref h_m_rowCounts, .ref h_m_elements, .ref h_m_numbers, .ref h_m_known, .ref h_m_ranks, .ref h_m_rankOf, .ref h_m_signOf, .ref h_m_order, .ref h_m_sizes, .ref h_m_coefficients, .ref h_m_choices, .ref h_m_sorted])), (h_m_rowCounts, .inl (cI, m_rowCounts_n, .inl m_rowCounts)), (h_m_elements, .inl (cI, m_elements_n, .inl m_elements)), (h_m_known, .inl (cZ, m_known_n, .inl u.1)), (h_m_numbers, .inl (cI, m_numbers_n, .inl u.2))]) (va_A [(h_m, .inr (6, [.ref h_m_one, .ref h_m_two, .ref h_m_three, .ref h_m_four, .ref h_m_five, .ref h_m_six, .ref h_m_seven, .ref h_m_eight, .ref h_m_work, .ref h_m_small, .int m_rows, .int m_columns, .int m_prime, .ref h_m_pivots, .ref h_m_freeRows, .ref h_m_freeColumns, .ref h_m_minor, .ref h_m_smallMinor, .ref h_m_fields, .ref h_m_rowCounts, .ref h_m_elements, .ref h_m_numbers, .ref h_m_known, .ref h_m_ranks, .ref h_m_rankOf, .ref h_m_signOf, .ref h_m_order, .ref h_m_sizes, .ref h_m_coefficients, .ref h_m_choices, .ref h_m_sorted])), (h_m_rowCounts, .inl (cI, m_rowCounts_n, .inl m_rowCounts)), (h_m_elements, .inl (cI, m_elements_n, .inl m_elements)), (h_m_known, .inl (cZ, m_known_n, .inl m_known)), (h_m_numbers, .inl (cI, m_numbers_n, .inl m_numbers))] sz)) 0 0 (va_A [(h_m, .inr (6, [.ref h_m_one, .ref h_m_two, .ref h_m_three, .ref h_m_four, .ref h_m_five, .ref h_m_six, .ref h_m_seven, .ref h_m_eight, .ref h_m_work, .ref h_m_small, .int m_rows, .int m_columns, .int m_prime, .ref h_m_pivots, .ref h_m_freeRows, .ref h_m_freeColumns, .ref h_m_minor, .ref h_m_smallMinor, .ref h_m_fields, .ref h_m_rowCounts, .ref h_m_elements, .ref h_m_numbers, .ref h_m_known, .ref h_m_ranks, .ref h_m_rankOf, .ref h_m_signOf, .ref h_m_order, .ref h_m_sizes, .ref h_m_coefficients, .ref h_m_choices, .ref h_m_sorted])), (h_m_rowCounts, .inl (cI, m_rowCounts_n, .inl m_rowCounts)), (h_m_elements, .inl (cI, m_elements_n, .inl m_elements)), (h_m_known, .inl (cZ, m_known_n, .inl m_known)), (h_m_numbers, .inl (cI, m_numbers_n, .inl m_numbers))] sz) := by
  refine Met.ofW (cc := prog_7_method_23_code) (maxL := 5) (ret := (Option.some Jvm.ClassFile.FieldType.boolean)) (by decide) rfl ?_
  intro p e s m args below meth c s₁ B hml hv
  obtain ⟨hAR, hsz, hP, hK, hN, hD0⟩ := hv
  have hx := B.exec
  have hb := B.bytes
  have hr := B.returns
  have hts := atoms_spec (ws := w_Mo_put) B.pre
  have hown : s.vm.findClass "BasisWalkModel" = some m.cls := findClass_of_methodNamed B.named
  have hlocks := B.notSynchronized
  clear B
  subst hsz
  have hD := hD0.self (sz := s.heap.size)
  generalize hAe : va_A [(h_m, .inr (6, [.ref h_m_one, .ref h_m_two, .ref h_m_three, .ref h_m_four, .ref h_m_five, .ref h_m_six, .ref h_m_seven, .ref h_m_eight, .ref h_m_work, .ref h_m_small, .int m_rows, .int m_columns, .int m_prime, .ref h_m_pivots, .ref h_m_freeRows, .ref h_m_freeColumns, .ref h_m_minor, .ref h_m_smallMinor, .ref h_m_fields, .ref h_m_rowCounts, .ref h_m_elements, .ref h_m_numbers, .ref h_m_known, .ref h_m_ranks, .ref h_m_rankOf, .ref h_m_signOf, .ref h_m_order, .ref h_m_sizes, .ref h_m_coefficients, .ref h_m_choices, .ref h_m_sorted])), (h_m_rowCounts, .inl (cI, m_rowCounts_n, .inl m_rowCounts)), (h_m_elements, .inl (cI, m_elements_n, .inl m_elements)), (h_m_known, .inl (cZ, m_known_n, .inl m_known)), (h_m_numbers, .inl (cI, m_numbers_n, .inl m_numbers))] s.heap.size = A at hD ⊢
  have hA : ∀ q : Nat, s.heap.size ≤ q → A q := fun q h => by rw [← hAe]; exact Or.inr h
  clear hAe hD0
  have hS : va_S A s.heap s.heap [] := va_S.rf
  have hl := lv_entry ([.ref h_m, .int t0, .int r0, .int c0, .int v0]) (n := 5) (Nat.le_of_ble_eq_true rfl)
  subst hAR
  rw [lg_entry_eq]
  generalize (lg_sl ([.ref h_m, .int t0, .int r0, .int c0, .int v0]) ++ List.replicate (5 - (lg_sl ([.ref h_m, .int t0, .int r0, .int c0, .int v0])).length) Slot.unset).toArray = ls at hl ⊢
  have hl : lv_has ls 5 [(0, .ref h_m), (1, .int t0), (2, .int r0), (3, .int c0), (4, .int v0)] := hl
  change W p l e ({ frames := 1, cells := 0, slots := 0, locals := 20 } : Room) s m _ below meth c s.heap [] 0 0 _ _
  generalize hARe : ([.ref h_m, .int t0, .int r0, .int c0, .int v0] : List Value).toArray = AR at hts ⊢
  clear hARe
  generalize hQ : MQ below _ AR s 0 0 A = QQ
  have fl0 := hts _ (List.mem_cons_of_mem _ tw_374)
  have iw1 := (fun w hw => List.mem_cons_of_mem _ (in_Mo w hw) : ∀ w ∈ u_ws "BasisWalkModel" T_Mo 31, w ∈ w_Mo_put)
  have fl2 := hts _ (List.mem_cons_of_mem _ tw_375)
  have fl3 := hts _ (List.mem_cons_of_mem _ tw_376)
  have fl4 := hts _ (List.mem_cons_of_mem _ tw_377)
  obtain ⟨H, hHe⟩ : ∃ H : Heap, H = s.heap := ⟨_, rfl⟩
  rw [← hHe] at hP ⊢
  replace hS : va_S A s.heap H [] := by rw [hHe]; exact va_S.rf
  clear hHe
  unfold f_R_put at h
  refine lv_iload_n hx hb d_Mo_put_0 rfl (lv_at hl 1 rfl) ?_
  obtain ⟨r_1, hc_2, h⟩ := ck_b1_s h
  have hPc := hP.sub (ws' := []) [] rfl
  have hDc := hD.sub (ws' := []) [] (by decide) rfl
  have hFc := va_free (wc := []) hD hS hA [] rfl
  refine va_calli (va_runS (As := [.int t0]) (rest := []) ⟨hx, hb, hml, hown, hts⟩ (c_R_isTable l dC dI cI cJ cB cZ cT cN H.size t0 _ hc_2) (va_cwS 1 hts (tb_S tw_455 tw_456 tw_6 tw_457) rfl rfl rfl (by decide +kernel) ⟨Nat.le_of_ble_eq_true rfl, Nat.le_of_ble_eq_true rfl⟩) ⟨fun a U g mk q => by obtain ⟨q0, q1, qP, qK, qN, qD⟩ := q; exact ⟨q0, q1, qP, va_K.moved (u := U) (U := U.calling g mk a) (Vm.Alike.refl U.vm) qK, qN.same rfl, qD⟩, fun U hU hW => ⟨rfl, by rw [hU], by rw [hU]; exact hPc, va_K.moved hW.alike hK, hN.warm hW, hDc.weaken (fun _ _ _ _ => trivial)⟩⟩ rfl rfl hl.1 rfl (lv_room (Nat.le_of_ble_eq_true rfl)) d_Mo_put_1 ⟨Nat.zero_le _, Nat.zero_le _⟩) hS (fun q _ h => hFc q h) hFc (fun rr u t H1 locs ht hvm hw hB hz1 hk1 hS => ?_)
  replace hw := hw.symm
  subst hw
  obtain ⟨hP1, -, hD1⟩ := hB
  rw [ht] at hP1
  obtain ⟨hP, hD⟩ := va_join (wr := [(h_m, .inr (6, [.ref h_m_one, .ref h_m_two, .ref h_m_three, .ref h_m_four, .ref h_m_five, .ref h_m_six, .ref h_m_seven, .ref h_m_eight, .ref h_m_work, .ref h_m_small, .int m_rows, .int m_columns, .int m_prime, .ref h_m_pivots, .ref h_m_freeRows, .ref h_m_freeColumns, .ref h_m_minor, .ref h_m_smallMinor, .ref h_m_fields, .ref h_m_rowCounts, .ref h_m_elements, .ref h_m_numbers, .ref h_m_known, .ref h_m_ranks, .ref h_m_rankOf, .ref h_m_signOf, .ref h_m_order, .ref h_m_sizes, .ref h_m_coefficients, .ref h_m_choices, .ref h_m_sorted])), (h_m_rowCounts, .inl (cI, m_rowCounts_n, .inl m_rowCounts)), (h_m_elements, .inl (cI, m_elements_n, .inl m_elements)), (h_m_known, .inl (cZ, m_known_n, .inl m_known)), (h_m_numbers, .inl (cI, m_numbers_n, .inl m_numbers))]) (w1 := []) hP hD [] [0, 1, 2, 3, 4] rfl rfl (by decide) (by decide) hk1 hFc hP1 hD1
  generalize H1 = H at hP hS ⊢
  have hP : va_P (dC, dI) cl_all [(h_m, .inr (6, [.ref h_m_one, .ref h_m_two, .ref h_m_three, .ref h_m_four, .ref h_m_five, .ref h_m_six, .ref h_m_seven, .ref h_m_eight, .ref h_m_work, .ref h_m_small, .int m_rows, .int m_columns, .int m_prime, .ref h_m_pivots, .ref h_m_freeRows, .ref h_m_freeColumns, .ref h_m_minor, .ref h_m_smallMinor, .ref h_m_fields, .ref h_m_rowCounts, .ref h_m_elements, .ref h_m_numbers, .ref h_m_known, .ref h_m_ranks, .ref h_m_rankOf, .ref h_m_signOf, .ref h_m_order, .ref h_m_sizes, .ref h_m_coefficients, .ref h_m_choices, .ref h_m_sorted])), (h_m_rowCounts, .inl (cI, m_rowCounts_n, .inl m_rowCounts)), (h_m_elements, .inl (cI, m_elements_n, .inl m_elements)), (h_m_known, .inl (cZ, m_known_n, .inl m_known)), (h_m_numbers, .inl (cI, m_numbers_n, .inl m_numbers))] H := hP.sub [0, 1, 2, 3, 4] rfl
  have hD : va_D A [(h_m, .inr (6, [.ref h_m_one, .ref h_m_two, .ref h_m_three, .ref h_m_four, .ref h_m_five, .ref h_m_six, .ref h_m_seven, .ref h_m_eight, .ref h_m_work, .ref h_m_small, .int m_rows, .int m_columns, .int m_prime, .ref h_m_pivots, .ref h_m_freeRows, .ref h_m_freeColumns, .ref h_m_minor, .ref h_m_smallMinor, .ref h_m_fields, .ref h_m_rowCounts, .ref h_m_elements, .ref h_m_numbers, .ref h_m_known, .ref h_m_ranks, .ref h_m_rankOf, .ref h_m_signOf, .ref h_m_order, .ref h_m_sizes, .ref h_m_coefficients, .ref h_m_choices, .ref h_m_sorted])), (h_m_rowCounts, .inl (cI, m_rowCounts_n, .inl m_rowCounts)), (h_m_elements, .inl (cI, m_elements_n, .inl m_elements)), (h_m_known, .inl (cZ, m_known_n, .inl m_known)), (h_m_numbers, .inl (cI, m_numbers_n, .inl m_numbers))] := hD.sub [0, 1, 2, 3, 4] (by decide) rfl
  refine lv_if_eq (tgt := 51) hx hb d_Mo_put_4 (by decide) (fun c_3 => ?_) (fun c_3 => ?_)
  · replace h := ck_if_t h c_3
    refine lv_iconst (v := 0) hx hb d_Mo_put_51 (by decide) ?_
    obtain rfl := Option.some.inj h
    subst hQ
    exact W.zret (ty := .boolean) (v := 0) hx hb hr rfl (fun t ht hW => ⟨⟨0, (m_known, m_numbers), rfl, rfl, by rw [ht]; exact hP, va_K.moved hW.alike hK, hD⟩, hS.F ht⟩) hS.2.2 d_Mo_put_52
  · replace h := ck_if_f h c_3
    refine lv_iload_n hx hb d_Mo_put_7 rfl (lv_at hl 2 rfl) ?_
    refine lv_if_lt (tgt := 51) hx hb d_Mo_put_8 (by decide) (fun c_4 => ?_) (fun c_4 => ?_)
    · replace h := ck_if_t h c_4
      refine lv_iconst (v := 0) hx hb d_Mo_put_51 (by decide) ?_
      obtain rfl := Option.some.inj h
      subst hQ
      exact W.zret (ty := .boolean) (v := 0) hx hb hr rfl (fun t ht hW => ⟨⟨0, (m_known, m_numbers), rfl, rfl, by rw [ht]; exact hP, va_K.moved hW.alike hK, hD⟩, hS.F ht⟩) hS.2.2 d_Mo_put_52
    · replace h := ck_if_f h c_4
      refine lv_iload_n hx hb d_Mo_put_11 rfl (lv_at hl 2 rfl) ?_
      refine lv_aload_n hx hb d_Mo_put_12 rfl (lv_at hl 0 rfl) ?_
      refine va_get (D := (dC, dI)) (ci := 6) (v := .ref h_m_rowCounts) (C := "BasisWalkModel") (T := T_Mo) (N := 31) hx hb hts iw1 hown hK hP 0 rfl rfl 19 (by decide) fl0 (fun _ h9 => h9) rfl d_Mo_put_13 ?_
      refine lv_iload_n hx hb d_Mo_put_16 rfl (lv_at hl 1 rfl) ?_
      obtain ⟨g_5, h⟩ := ck_in_s h
      refine va_iald hx hb hK hP 1 0 rfl rfl g_5 d_Mo_put_17 ?_
      refine lv_icmp_ge (tgt := 51) hx hb d_Mo_put_18 (by decide) (fun c_6 => ?_) (fun c_6 => ?_)
      · replace h := ck_if_t h c_6
        refine lv_iconst (v := 0) hx hb d_Mo_put_51 (by decide) ?_
        obtain rfl := Option.some.inj h
        subst hQ
        exact W.zret (ty := .boolean) (v := 0) hx hb hr rfl (fun t ht hW => ⟨⟨0, (m_known, m_numbers), rfl, rfl, by rw [ht]; exact hP, va_K.moved hW.alike hK, hD⟩, hS.F ht⟩) hS.2.2 d_Mo_put_52
      · replace h := ck_if_f h c_6
        refine lv_iload_n hx hb d_Mo_put_21 rfl (lv_at hl 3 rfl) ?_
        refine lv_if_lt (tgt := 51) hx hb d_Mo_put_22 (by decide) (fun c_7 => ?_) (fun c_7 => ?_)
        · replace h := ck_if_t h c_7
          refine lv_iconst (v := 0) hx hb d_Mo_put_51 (by decide) ?_
          obtain rfl := Option.some.inj h
          subst hQ
          exact W.zret (ty := .boolean) (v := 0) hx hb hr rfl (fun t ht hW => ⟨⟨0, (m_known, m_numbers), rfl, rfl, by rw [ht]; exact hP, va_K.moved hW.alike hK, hD⟩, hS.F ht⟩) hS.2.2 d_Mo_put_52
        · replace h := ck_if_f h c_7
          refine lv_iload_n hx hb d_Mo_put_25 rfl (lv_at hl 3 rfl) ?_
          refine lv_aload_n hx hb d_Mo_put_26 rfl (lv_at hl 0 rfl) ?_
          refine va_get (D := (dC, dI)) (ci := 6) (v := .ref h_m_elements) (C := "BasisWalkModel") (T := T_Mo) (N := 31) hx hb hts iw1 hown hK hP 0 rfl rfl 20 (by decide) fl2 (fun _ h9 => h9) rfl d_Mo_put_27 ?_
          refine lv_iload_n hx hb d_Mo_put_30 rfl (lv_at hl 1 rfl) ?_
          obtain ⟨g_8, h⟩ := ck_in_s h
          refine va_iald hx hb hK hP 2 0 rfl rfl g_8 d_Mo_put_31 ?_
          refine lv_icmp_ge (tgt := 51) hx hb d_Mo_put_32 (by decide) (fun c_9 => ?_) (fun c_9 => ?_)
          · replace h := ck_if_t h c_9
            refine lv_iconst (v := 0) hx hb d_Mo_put_51 (by decide) ?_
            obtain rfl := Option.some.inj h
            subst hQ
            exact W.zret (ty := .boolean) (v := 0) hx hb hr rfl (fun t ht hW => ⟨⟨0, (m_known, m_numbers), rfl, rfl, by rw [ht]; exact hP, va_K.moved hW.alike hK, hD⟩, hS.F ht⟩) hS.2.2 d_Mo_put_52
          · replace h := ck_if_f h c_9
            refine lv_iload hx hb d_Mo_put_35 (lv_at hl 4 rfl) ?_
            refine lv_sipush (v := (-999)) hx hb d_Mo_put_37 (by decide) ?_
            refine lv_icmp_lt (tgt := 51) hx hb d_Mo_put_40 (by decide) (fun c_10 => ?_) (fun c_10 => ?_)
            · replace h := ck_if_t h c_10
              refine lv_iconst (v := 0) hx hb d_Mo_put_51 (by decide) ?_
              obtain rfl := Option.some.inj h
              subst hQ
              exact W.zret (ty := .boolean) (v := 0) hx hb hr rfl (fun t ht hW => ⟨⟨0, (m_known, m_numbers), rfl, rfl, by rw [ht]; exact hP, va_K.moved hW.alike hK, hD⟩, hS.F ht⟩) hS.2.2 d_Mo_put_52
            · replace h := ck_if_f h c_10
              refine lv_iload hx hb d_Mo_put_43 (lv_at hl 4 rfl) ?_
              refine lv_sipush (v := 999) hx hb d_Mo_put_45 (by decide) ?_
              refine lv_icmp_le (tgt := 53) hx hb d_Mo_put_48 (by decide) (fun c_11 => ?_) (fun c_11 => ?_)
              · replace h := ck_if_t h c_11
                refine lv_aload_n hx hb d_Mo_put_53 rfl (lv_at hl 0 rfl) ?_
                refine va_get (D := (dC, dI)) (ci := 6) (v := .ref h_m_numbers) (C := "BasisWalkModel") (T := T_Mo) (N := 31) hx hb hts iw1 hown hK hP 0 rfl rfl 21 (by decide) fl3 (fun _ h9 => h9) rfl d_Mo_put_54 ?_
                refine lv_sipush (v := 144) hx hb d_Mo_put_57 (by decide) ?_
                refine lv_iload_n hx hb d_Mo_put_60 rfl (lv_at hl 1 rfl) ?_
                refine lv_imul hx hb d_Mo_put_61 ?_
                refine lv_bipush (v := 12) hx hb d_Mo_put_62 (by decide) ?_
                refine lv_iload_n hx hb d_Mo_put_64 rfl (lv_at hl 2 rfl) ?_
                refine lv_imul hx hb d_Mo_put_65 ?_
                refine lv_iadd hx hb d_Mo_put_66 ?_
                refine lv_iload_n hx hb d_Mo_put_67 rfl (lv_at hl 3 rfl) ?_
                refine lv_iadd hx hb d_Mo_put_68 ?_
                refine lv_iload hx hb d_Mo_put_69 (lv_at hl 4 rfl) ?_
                obtain ⟨g_12, h⟩ := ck_in_s h
                refine va_iast hx hb hK hP hD hS 4 0 rfl rfl g_12 d_Mo_put_71 (fun H locs hP hD hS => ?_)
                have hP : va_P (dC, dI) cl_all [(h_m, .inr (6, [.ref h_m_one, .ref h_m_two, .ref h_m_three, .ref h_m_four, .ref h_m_five, .ref h_m_six, .ref h_m_seven, .ref h_m_eight, .ref h_m_work, .ref h_m_small, .int m_rows, .int m_columns, .int m_prime, .ref h_m_pivots, .ref h_m_freeRows, .ref h_m_freeColumns, .ref h_m_minor, .ref h_m_smallMinor, .ref h_m_fields, .ref h_m_rowCounts, .ref h_m_elements, .ref h_m_numbers, .ref h_m_known, .ref h_m_ranks, .ref h_m_rankOf, .ref h_m_signOf, .ref h_m_order, .ref h_m_sizes, .ref h_m_coefficients, .ref h_m_choices, .ref h_m_sorted])), (h_m_rowCounts, .inl (cI, m_rowCounts_n, .inl m_rowCounts)), (h_m_elements, .inl (cI, m_elements_n, .inl m_elements)), (h_m_known, .inl (cZ, m_known_n, .inl m_known)), (h_m_numbers, .inl (cI, m_numbers_n, .inl (upd m_numbers (((144 * t0) + (12 * r0)) + c0).toNatClampNeg v0)))] H := hP
                have hD : va_D A [(h_m, .inr (6, [.ref h_m_one, .ref h_m_two, .ref h_m_three, .ref h_m_four, .ref h_m_five, .ref h_m_six, .ref h_m_seven, .ref h_m_eight, .ref h_m_work, .ref h_m_small, .int m_rows, .int m_columns, .int m_prime, .ref h_m_pivots, .ref h_m_freeRows, .ref h_m_freeColumns, .ref h_m_minor, .ref h_m_smallMinor, .ref h_m_fields, .ref h_m_rowCounts, .ref h_m_elements, .ref h_m_numbers, .ref h_m_known, .ref h_m_ranks, .ref h_m_rankOf, .ref h_m_signOf, .ref h_m_order, .ref h_m_sizes, .ref h_m_coefficients, .ref h_m_choices, .ref h_m_sorted])), (h_m_rowCounts, .inl (cI, m_rowCounts_n, .inl m_rowCounts)), (h_m_elements, .inl (cI, m_elements_n, .inl m_elements)), (h_m_known, .inl (cZ, m_known_n, .inl m_known)), (h_m_numbers, .inl (cI, m_numbers_n, .inl (upd m_numbers (((144 * t0) + (12 * r0)) + c0).toNatClampNeg v0)))] := hD
                refine lv_aload_n hx hb d_Mo_put_72 rfl (lv_at hl 0 rfl) ?_
                refine va_get (D := (dC, dI)) (ci := 6) (v := .ref h_m_known) (C := "BasisWalkModel") (T := T_Mo) (N := 31) hx hb hts iw1 hown hK hP 0 rfl rfl 22 (by decide) fl4 (fun _ h9 => h9) rfl d_Mo_put_73 ?_
                refine lv_iload_n hx hb d_Mo_put_76 rfl (lv_at hl 1 rfl) ?_
                refine lv_iconst (v := 0) hx hb d_Mo_put_77 (by decide) ?_
                obtain ⟨g_13, h⟩ := ck_in_s h
                refine va_zast hx hb hK hP hD hS 3 3 rfl rfl g_13 d_Mo_put_78 (fun H locs hP hD hS => ?_)
                have hP : va_P (dC, dI) cl_all [(h_m, .inr (6, [.ref h_m_one, .ref h_m_two, .ref h_m_three, .ref h_m_four, .ref h_m_five, .ref h_m_six, .ref h_m_seven, .ref h_m_eight, .ref h_m_work, .ref h_m_small, .int m_rows, .int m_columns, .int m_prime, .ref h_m_pivots, .ref h_m_freeRows, .ref h_m_freeColumns, .ref h_m_minor, .ref h_m_smallMinor, .ref h_m_fields, .ref h_m_rowCounts, .ref h_m_elements, .ref h_m_numbers, .ref h_m_known, .ref h_m_ranks, .ref h_m_rankOf, .ref h_m_signOf, .ref h_m_order, .ref h_m_sizes, .ref h_m_coefficients, .ref h_m_choices, .ref h_m_sorted])), (h_m_rowCounts, .inl (cI, m_rowCounts_n, .inl m_rowCounts)), (h_m_elements, .inl (cI, m_elements_n, .inl m_elements)), (h_m_known, .inl (cZ, m_known_n, .inl (upd m_known t0.toNatClampNeg (vp_nar .boolean 0)))), (h_m_numbers, .inl (cI, m_numbers_n, .inl (upd m_numbers (((144 * t0) + (12 * r0)) + c0).toNatClampNeg v0)))] H := hP
                have hD : va_D A [(h_m, .inr (6, [.ref h_m_one, .ref h_m_two, .ref h_m_three, .ref h_m_four, .ref h_m_five, .ref h_m_six, .ref h_m_seven, .ref h_m_eight, .ref h_m_work, .ref h_m_small, .int m_rows, .int m_columns, .int m_prime, .ref h_m_pivots, .ref h_m_freeRows, .ref h_m_freeColumns, .ref h_m_minor, .ref h_m_smallMinor, .ref h_m_fields, .ref h_m_rowCounts, .ref h_m_elements, .ref h_m_numbers, .ref h_m_known, .ref h_m_ranks, .ref h_m_rankOf, .ref h_m_signOf, .ref h_m_order, .ref h_m_sizes, .ref h_m_coefficients, .ref h_m_choices, .ref h_m_sorted])), (h_m_rowCounts, .inl (cI, m_rowCounts_n, .inl m_rowCounts)), (h_m_elements, .inl (cI, m_elements_n, .inl m_elements)), (h_m_known, .inl (cZ, m_known_n, .inl (upd m_known t0.toNatClampNeg (vp_nar .boolean 0)))), (h_m_numbers, .inl (cI, m_numbers_n, .inl (upd m_numbers (((144 * t0) + (12 * r0)) + c0).toNatClampNeg v0)))] := hD
                refine lv_iconst (v := 1) hx hb d_Mo_put_79 (by decide) ?_
                obtain rfl := Option.some.inj h
                subst hQ
                exact W.zret (ty := .boolean) (v := 1) hx hb hr rfl (fun t ht hW => ⟨⟨1, ((upd m_known t0.toNatClampNeg (vp_nar .boolean 0)), (upd m_numbers (((144 * t0) + (12 * r0)) + c0).toNatClampNeg v0)), rfl, rfl, by rw [ht]; exact hP, va_K.moved hW.alike hK, hD⟩, hS.F ht⟩) hS.2.2 d_Mo_put_80
              · replace h := ck_if_f h c_11
                refine lv_iconst (v := 0) hx hb d_Mo_put_51 (by decide) ?_
                obtain rfl := Option.some.inj h
                subst hQ
                exact W.zret (ty := .boolean) (v := 0) hx hb hr rfl (fun t ht hW => ⟨⟨0, (m_known, m_numbers), rfl, rfl, by rw [ht]; exact hP, va_K.moved hW.alike hK, hD⟩, hS.F ht⟩) hS.2.2 d_Mo_put_52
theorem d_Mo_empty_0 : decode prog_7_method_3_code 0 = .ok (.aload_n 0, 1) := by decide +kernel
theorem d_Mo_empty_1 : decode prog_7_method_3_code 1 = .ok (.iload_n 1, 1) := by decide +kernel
theorem d_Mo_empty_2 : decode prog_7_method_3_code 2 = .ok (.putfield 38, 3) := by decide +kernel
theorem d_Mo_empty_5 : decode prog_7_method_3_code 5 = .ok (.aload_n 0, 1) := by decide +kernel
theorem d_Mo_empty_6 : decode prog_7_method_3_code 6 = .ok (.iload_n 2, 1) := by decide +kernel
theorem d_Mo_empty_7 : decode prog_7_method_3_code 7 = .ok (.putfield 41, 3) := by decide +kernel
theorem d_Mo_empty_10 : decode prog_7_method_3_code 10 = .ok (.aload_n 0, 1) := by decide +kernel
theorem d_Mo_empty_11 : decode prog_7_method_3_code 11 = .ok (.iconst 0, 1) := by decide +kernel
theorem d_Mo_empty_12 : decode prog_7_method_3_code 12 = .ok (.putfield 44, 3) := by decide +kernel
theorem d_Mo_empty_15 : decode prog_7_method_3_code 15 = .ok (.return_, 1) := by decide +kernel
def f_R_empty (p0 : Int32) (n0 : Int32) : Option (Int32 × Int32 × Int32) :=
  some (p0, n0, 0)
set_option maxHeartbeats 4000000 in
set_option maxRecDepth 100000 in
theorem c_R_empty (l : Launch) (dC : Nat → ClassId) (dI : Nat → Nat → Nat) (cI cJ cB cZ cT cN : ClassId) (sz : Nat) (h_m : Nat) (h_m_one : Nat) (h_m_two : Nat) (h_m_three : Nat) (h_m_four : Nat) (h_m_five : Nat) (h_m_six : Nat) (h_m_seven : Nat) (h_m_eight : Nat) (h_m_work : Nat) (h_m_small : Nat) (h_m_pivots : Nat) (h_m_freeRows : Nat) (h_m_freeColumns : Nat) (h_m_minor : Nat) (h_m_smallMinor : Nat) (h_m_fields : Nat) (h_m_rowCounts : Nat) (h_m_elements : Nat) (h_m_numbers : Nat) (h_m_known : Nat) (h_m_ranks : Nat) (h_m_rankOf : Nat) (h_m_signOf : Nat) (h_m_order : Nat) (h_m_sizes : Nat) (h_m_coefficients : Nat) (h_m_choices : Nat) (h_m_sorted : Nat) (m_rows : Int32) (m_columns : Int32) (m_prime : Int32) (p0 : Int32) (n0 : Int32) (r : Int32 × Int32 × Int32) (h : f_R_empty p0 n0 = some r) : Met l y_Mo_empty w_Mo_empty ({ frames := 0, cells := 0, slots := 0, locals := 0 } : Room) (va_Pc [.ref h_m, .int p0, .int n0] (fun U => U.heap.size = sz ∧ va_P (dC, dI) cl_all [(h_m, .inr (6, [.ref h_m_one, .ref h_m_two, .ref h_m_three, .ref h_m_four, .ref h_m_five, .ref h_m_six, .ref h_m_seven, .ref h_m_eight, .ref h_m_work, .ref h_m_small, .int m_rows, .int m_columns, .int m_prime, .ref h_m_pivots, .ref h_m_freeRows, .ref h_m_freeColumns, .ref h_m_minor, .ref h_m_smallMinor, .ref h_m_fields, .ref h_m_rowCounts, .ref h_m_elements, .ref h_m_numbers, .ref h_m_known, .ref h_m_ranks, .ref h_m_rankOf, .ref h_m_signOf, .ref h_m_order, .ref h_m_sizes, .ref h_m_coefficients, .ref h_m_choices, .ref h_m_sorted]))] U.heap ∧ va_K (dC, dI) cl_all [(cI, .int), (cJ, .long), (cB, .byte), (cZ, .boolean), (cT, .object "BasisWalk$Table"), (cN, .object "BasisWalkModel$Num")] U ∧ NW U ∧ va_D (fun _ => True) [(h_m, .inr (6, [.ref h_m_one, .ref h_m_two, .ref h_m_three, .ref h_m_four, .ref h_m_five, .ref h_m_six, .ref h_m_seven, .ref h_m_eight, .ref h_m_work, .ref h_m_small, .int m_rows, .int m_columns, .int m_prime, .ref h_m_pivots, .ref h_m_freeRows, .ref h_m_freeColumns, .ref h_m_minor, .ref h_m_smallMinor, .ref h_m_fields, .ref h_m_rowCounts, .ref h_m_elements, .ref h_m_numbers, .ref h_m_known, .ref h_m_ranks, .ref h_m_rankOf, .ref h_m_signOf, .ref h_m_order, .ref h_m_sizes, .ref h_m_coefficients, .ref h_m_choices, .ref h_m_sorted]))])) (va_Qv (fun u : Int32 × Int32 × Int32 => u = r) (fun (u : Int32 × Int32 × Int32) (t : State) => va_P (dC, dI) cl_all [(h_m, .inr (6, [.ref h_m_one, .ref h_m_two, .ref h_m_three, .ref h_m_four, .ref h_m_five, .ref h_m_six, .ref h_m_seven, .ref h_m_eight, .ref h_m_work, .ref h_m_small, .int u.2.2, .int u.2.1, .int u.1, .ref h_m_pivots, .ref h_m_freeRows, .ref h_m_freeColumns, .ref h_m_minor, .ref h_m_smallMinor, .ref h_m_fields, .ref h_m_rowCounts, .ref h_m_elements, .ref h_m_numbers, .ref h_m_known, .ref h_m_ranks, .ref h_m_rankOf, .ref h_m_signOf, .ref h_m_order, .ref h_m_sizes, .ref h_m_coefficients, .ref h_m_choices, .ref h_m_sorted]))] t.heap ∧ va_K (dC, dI) cl_all [(cI, .int), (cJ, .long), (cB, .byte), (cZ, .boolean), (cT, .object "BasisWalk$Table"), (cN, .object "BasisWalkModel$Num")] t ∧ va_D (va_A [(h_m, .inr (6, [.ref h_m_one, .ref h_m_two, .ref h_m_three, .ref h_m_four, .ref h_m_five, .ref h_m_six, .ref h_m_seven, .ref h_m_eight, .ref h_m_work, .ref h_m_small, .int m_rows, .int m_columns, .int m_prime, .ref h_m_pivots, .ref h_m_freeRows, .ref h_m_freeColumns, .ref h_m_minor, .ref h_m_smallMinor, .ref h_m_fields, .ref h_m_rowCounts, .ref h_m_elements, .ref h_m_numbers, .ref h_m_known, .ref h_m_ranks, .ref h_m_rankOf, .ref h_m_signOf, .ref h_m_order, .ref h_m_sizes, .ref h_m_coefficients, .ref h_m_choices, .ref h_m_sorted]))] sz) [(h_m, .inr (6, [.ref h_m_one, .ref h_m_two, .ref h_m_three, .ref h_m_four, .ref h_m_five, .ref h_m_six, .ref h_m_seven, .ref h_m_eight, .ref h_m_work, .ref h_m_small, .int u.2.2, .int u.2.1, .int u.1, .ref h_m_pivots, .ref h_m_freeRows, .ref h_m_freeColumns, .ref h_m_minor, .ref h_m_smallMinor, .ref h_m_fields, .ref h_m_rowCounts, .ref h_m_elements, .ref h_m_numbers, .ref h_m_known, .ref h_m_ranks, .ref h_m_rankOf, .ref h_m_signOf, .ref h_m_order, .ref h_m_sizes, .ref h_m_coefficients, .ref h_m_choices, .ref h_m_sorted]))]) (va_A [(h_m, .inr (6, [.ref h_m_one, .ref h_m_two, .ref h_m_three, .ref h_m_four, .ref h_m_five, .ref h_m_six, .ref h_m_seven, .ref h_m_eight, .ref h_m_work, .ref h_m_small, .int m_rows, .int m_columns, .int m_prime, .ref h_m_pivots, .ref h_m_freeRows, .ref h_m_freeColumns, .ref h_m_minor, .ref h_m_smallMinor, .ref h_m_fields, .ref h_m_rowCounts, .ref h_m_elements, .ref h_m_numbers, .ref h_m_known, .ref h_m_ranks, .ref h_m_rankOf, .ref h_m_signOf, .ref h_m_order, .ref h_m_sizes, .ref h_m_coefficients, .ref h_m_choices, .ref h_m_sorted]))] sz)) 0 0 (va_A [(h_m, .inr (6, [.ref h_m_one, .ref h_m_two, .ref h_m_three, .ref h_m_four, .ref h_m_five, .ref h_m_six, .ref h_m_seven, .ref h_m_eight, .ref h_m_work, .ref h_m_small, .int m_rows, .int m_columns, .int m_prime, .ref h_m_pivots, .ref h_m_freeRows, .ref h_m_freeColumns, .ref h_m_minor, .ref h_m_smallMinor, .ref h_m_fields, .ref h_m_rowCounts, .ref h_m_elements, .ref h_m_numbers, .ref h_m_known, .ref h_m_ranks, .ref h_m_rankOf, .ref h_m_signOf, .ref h_m_order, .ref h_m_sizes, .ref h_m_coefficients, .ref h_m_choices, .ref h_m_sorted]))] sz) := by
  refine Met.ofW (cc := prog_7_method_3_code) (maxL := 3) (ret := (Option.none : Option Jvm.ClassFile.FieldType)) (by decide) rfl ?_
  intro p e s m args below meth c s₁ B hml hv
  obtain ⟨hAR, hsz, hP, hK, hN, hD0⟩ := hv
  have hx := B.exec
  have hb := B.bytes
  have hr := B.returns
  have hts := atoms_spec (ws := w_Mo_empty) B.pre
  have hown : s.vm.findClass "BasisWalkModel" = some m.cls := findClass_of_methodNamed B.named
  have hlocks := B.notSynchronized
  clear B
  subst hsz
  have hD := hD0.self (sz := s.heap.size)
  generalize hAe : va_A [(h_m, .inr (6, [.ref h_m_one, .ref h_m_two, .ref h_m_three, .ref h_m_four, .ref h_m_five, .ref h_m_six, .ref h_m_seven, .ref h_m_eight, .ref h_m_work, .ref h_m_small, .int m_rows, .int m_columns, .int m_prime, .ref h_m_pivots, .ref h_m_freeRows, .ref h_m_freeColumns, .ref h_m_minor, .ref h_m_smallMinor, .ref h_m_fields, .ref h_m_rowCounts, .ref h_m_elements, .ref h_m_numbers, .ref h_m_known, .ref h_m_ranks, .ref h_m_rankOf, .ref h_m_signOf, .ref h_m_order, .ref h_m_sizes, .ref h_m_coefficients, .ref h_m_choices, .ref h_m_sorted]))] s.heap.size = A at hD ⊢
  have hA : ∀ q : Nat, s.heap.size ≤ q → A q := fun q h => by rw [← hAe]; exact Or.inr h
  clear hAe hD0
  have hS : va_S A s.heap s.heap [] := va_S.rf
  have hl := lv_entry ([.ref h_m, .int p0, .int n0]) (n := 3) (Nat.le_of_ble_eq_true rfl)
  subst hAR
  rw [lg_entry_eq]
  generalize (lg_sl ([.ref h_m, .int p0, .int n0]) ++ List.replicate (3 - (lg_sl ([.ref h_m, .int p0, .int n0])).length) Slot.unset).toArray = ls at hl ⊢
  have hl : lv_has ls 3 [(0, .ref h_m), (1, .int p0), (2, .int n0)] := hl
  change W p l e ({ frames := 0, cells := 0, slots := 0, locals := 0 } : Room) s m _ below meth c s.heap [] 0 0 _ _
  generalize hARe : ([.ref h_m, .int p0, .int n0] : List Value).toArray = AR at hts ⊢
  clear hARe
  generalize hQ : MQ below _ AR s 0 0 A = QQ
  have fl0 := hts _ (List.mem_cons_of_mem _ tw_367)
  have iw1 := (fun w hw => List.mem_cons_of_mem _ (in_Mo w hw) : ∀ w ∈ u_ws "BasisWalkModel" T_Mo 31, w ∈ w_Mo_empty)
  have fl2 := hts _ (List.mem_cons_of_mem _ tw_366)
  have fl3 := hts _ (List.mem_cons_of_mem _ tw_365)
  obtain ⟨H, hHe⟩ : ∃ H : Heap, H = s.heap := ⟨_, rfl⟩
  rw [← hHe] at hP ⊢
  replace hS : va_S A s.heap H [] := by rw [hHe]; exact va_S.rf
  clear hHe
  unfold f_R_empty at h
  refine lv_aload_n hx hb d_Mo_empty_0 rfl (lv_at hl 0 rfl) ?_
  refine lv_iload_n hx hb d_Mo_empty_1 rfl (lv_at hl 1 rfl) ?_
  refine va_put (D := (dC, dI)) (ci := 6) (v := .int p0) (ty := .int) (C := "BasisWalkModel") (T := T_Mo) (N := 31) hx hb hts iw1 ty_Mo tyok_Mo nm_Mo hown hK hP hD hS 0 rfl rfl 12 (by decide) fl0 (fun _ h9 => h9) rfl (by decide +kernel) rfl rfl (Nat.le_of_ble_eq_true rfl) d_Mo_empty_2 (fun H locs hP hD hS => ?_)
  have hP : va_P (dC, dI) cl_all [(h_m, .inr (6, [.ref h_m_one, .ref h_m_two, .ref h_m_three, .ref h_m_four, .ref h_m_five, .ref h_m_six, .ref h_m_seven, .ref h_m_eight, .ref h_m_work, .ref h_m_small, .int m_rows, .int m_columns, .int p0, .ref h_m_pivots, .ref h_m_freeRows, .ref h_m_freeColumns, .ref h_m_minor, .ref h_m_smallMinor, .ref h_m_fields, .ref h_m_rowCounts, .ref h_m_elements, .ref h_m_numbers, .ref h_m_known, .ref h_m_ranks, .ref h_m_rankOf, .ref h_m_signOf, .ref h_m_order, .ref h_m_sizes, .ref h_m_coefficients, .ref h_m_choices, .ref h_m_sorted]))] H := hP
  have hD : va_D A [(h_m, .inr (6, [.ref h_m_one, .ref h_m_two, .ref h_m_three, .ref h_m_four, .ref h_m_five, .ref h_m_six, .ref h_m_seven, .ref h_m_eight, .ref h_m_work, .ref h_m_small, .int m_rows, .int m_columns, .int p0, .ref h_m_pivots, .ref h_m_freeRows, .ref h_m_freeColumns, .ref h_m_minor, .ref h_m_smallMinor, .ref h_m_fields, .ref h_m_rowCounts, .ref h_m_elements, .ref h_m_numbers, .ref h_m_known, .ref h_m_ranks, .ref h_m_rankOf, .ref h_m_signOf, .ref h_m_order, .ref h_m_sizes, .ref h_m_coefficients, .ref h_m_choices, .ref h_m_sorted]))] := hD
  refine lv_aload_n hx hb d_Mo_empty_5 rfl (lv_at hl 0 rfl) ?_
  refine lv_iload_n hx hb d_Mo_empty_6 rfl (lv_at hl 2 rfl) ?_
  refine va_put (D := (dC, dI)) (ci := 6) (v := .int n0) (ty := .int) (C := "BasisWalkModel") (T := T_Mo) (N := 31) hx hb hts iw1 ty_Mo tyok_Mo nm_Mo hown hK hP hD hS 0 rfl rfl 11 (by decide) fl2 (fun _ h9 => h9) rfl (by decide +kernel) rfl rfl (Nat.le_of_ble_eq_true rfl) d_Mo_empty_7 (fun H locs hP hD hS => ?_)
  have hP : va_P (dC, dI) cl_all [(h_m, .inr (6, [.ref h_m_one, .ref h_m_two, .ref h_m_three, .ref h_m_four, .ref h_m_five, .ref h_m_six, .ref h_m_seven, .ref h_m_eight, .ref h_m_work, .ref h_m_small, .int m_rows, .int n0, .int p0, .ref h_m_pivots, .ref h_m_freeRows, .ref h_m_freeColumns, .ref h_m_minor, .ref h_m_smallMinor, .ref h_m_fields, .ref h_m_rowCounts, .ref h_m_elements, .ref h_m_numbers, .ref h_m_known, .ref h_m_ranks, .ref h_m_rankOf, .ref h_m_signOf, .ref h_m_order, .ref h_m_sizes, .ref h_m_coefficients, .ref h_m_choices, .ref h_m_sorted]))] H := hP
  have hD : va_D A [(h_m, .inr (6, [.ref h_m_one, .ref h_m_two, .ref h_m_three, .ref h_m_four, .ref h_m_five, .ref h_m_six, .ref h_m_seven, .ref h_m_eight, .ref h_m_work, .ref h_m_small, .int m_rows, .int n0, .int p0, .ref h_m_pivots, .ref h_m_freeRows, .ref h_m_freeColumns, .ref h_m_minor, .ref h_m_smallMinor, .ref h_m_fields, .ref h_m_rowCounts, .ref h_m_elements, .ref h_m_numbers, .ref h_m_known, .ref h_m_ranks, .ref h_m_rankOf, .ref h_m_signOf, .ref h_m_order, .ref h_m_sizes, .ref h_m_coefficients, .ref h_m_choices, .ref h_m_sorted]))] := hD
  refine lv_aload_n hx hb d_Mo_empty_10 rfl (lv_at hl 0 rfl) ?_
  refine lv_iconst (v := 0) hx hb d_Mo_empty_11 (by decide) ?_
  refine va_put (D := (dC, dI)) (ci := 6) (v := .int 0) (ty := .int) (C := "BasisWalkModel") (T := T_Mo) (N := 31) hx hb hts iw1 ty_Mo tyok_Mo nm_Mo hown hK hP hD hS 0 rfl rfl 10 (by decide) fl3 (fun _ h9 => h9) rfl (by decide +kernel) rfl rfl (Nat.le_of_ble_eq_true rfl) d_Mo_empty_12 (fun H locs hP hD hS => ?_)
  have hP : va_P (dC, dI) cl_all [(h_m, .inr (6, [.ref h_m_one, .ref h_m_two, .ref h_m_three, .ref h_m_four, .ref h_m_five, .ref h_m_six, .ref h_m_seven, .ref h_m_eight, .ref h_m_work, .ref h_m_small, .int 0, .int n0, .int p0, .ref h_m_pivots, .ref h_m_freeRows, .ref h_m_freeColumns, .ref h_m_minor, .ref h_m_smallMinor, .ref h_m_fields, .ref h_m_rowCounts, .ref h_m_elements, .ref h_m_numbers, .ref h_m_known, .ref h_m_ranks, .ref h_m_rankOf, .ref h_m_signOf, .ref h_m_order, .ref h_m_sizes, .ref h_m_coefficients, .ref h_m_choices, .ref h_m_sorted]))] H := hP
  have hD : va_D A [(h_m, .inr (6, [.ref h_m_one, .ref h_m_two, .ref h_m_three, .ref h_m_four, .ref h_m_five, .ref h_m_six, .ref h_m_seven, .ref h_m_eight, .ref h_m_work, .ref h_m_small, .int 0, .int n0, .int p0, .ref h_m_pivots, .ref h_m_freeRows, .ref h_m_freeColumns, .ref h_m_minor, .ref h_m_smallMinor, .ref h_m_fields, .ref h_m_rowCounts, .ref h_m_elements, .ref h_m_numbers, .ref h_m_known, .ref h_m_ranks, .ref h_m_rankOf, .ref h_m_signOf, .ref h_m_order, .ref h_m_sizes, .ref h_m_coefficients, .ref h_m_choices, .ref h_m_sorted]))] := hD
  obtain rfl := Option.some.inj h
  subst hQ
  exact W.vret hx hb hr (fun t ht hW => ⟨⟨(p0, n0, 0), rfl, rfl, by rw [ht]; exact hP, va_K.moved hW.alike hK, hD⟩, hS.F ht⟩) hS.2.2 d_Mo_empty_15
theorem d_Mo_inverse_0 : decode prog_7_method_7_code 0 = .ok (.iconst 1, 1) := by decide +kernel
theorem d_Mo_inverse_1 : decode prog_7_method_7_code 1 = .ok (.istore_n 2, 1) := by decide +kernel
theorem d_Mo_inverse_2 : decode prog_7_method_7_code 2 = .ok (.iload_n 2, 1) := by decide +kernel
theorem d_Mo_inverse_3 : decode prog_7_method_7_code 3 = .ok (.iload_n 1, 1) := by decide +kernel
theorem d_Mo_inverse_4 : decode prog_7_method_7_code 4 = .ok (.imul, 1) := by decide +kernel
theorem d_Mo_inverse_5 : decode prog_7_method_7_code 5 = .ok (.aload_n 0, 1) := by decide +kernel
theorem d_Mo_inverse_6 : decode prog_7_method_7_code 6 = .ok (.getfield 38, 3) := by decide +kernel
theorem d_Mo_inverse_9 : decode prog_7_method_7_code 9 = .ok (.irem, 1) := by decide +kernel
theorem d_Mo_inverse_10 : decode prog_7_method_7_code 10 = .ok (.iconst 1, 1) := by decide +kernel
theorem d_Mo_inverse_11 : decode prog_7_method_7_code 11 = .ok (.if_icmp .eq 9, 3) := by decide +kernel
theorem d_Mo_inverse_14 : decode prog_7_method_7_code 14 = .ok (.iinc 2 1, 3) := by decide +kernel
theorem d_Mo_inverse_17 : decode prog_7_method_7_code 17 = .ok (.goto (-15), 3) := by decide +kernel
theorem d_Mo_inverse_20 : decode prog_7_method_7_code 20 = .ok (.iload_n 2, 1) := by decide +kernel
theorem d_Mo_inverse_21 : decode prog_7_method_7_code 21 = .ok (.ireturn, 1) := by decide +kernel
def f_R_inverse (m_prime : Int32) (v0 : Int32) : Option (Int32) :=
  lo1 (fun k_2 (v2_1 : Int32) => ck_nz m_prime <| ck_if (((v2_1 * v0) - (v2_1 * v0) / m_prime * m_prime) = 1) (some v2_1) (ck_nm (v2_1 + 1) <| fun x_4 => k_2 x_4)) ck_F 1
set_option maxHeartbeats 4000000 in
set_option maxRecDepth 100000 in
theorem c_R_inverse (l : Launch) (dC : Nat → ClassId) (dI : Nat → Nat → Nat) (cI cJ cB cZ cT cN : ClassId) (sz : Nat) (h_m : Nat) (h_m_one : Nat) (h_m_two : Nat) (h_m_three : Nat) (h_m_four : Nat) (h_m_five : Nat) (h_m_six : Nat) (h_m_seven : Nat) (h_m_eight : Nat) (h_m_work : Nat) (h_m_small : Nat) (h_m_pivots : Nat) (h_m_freeRows : Nat) (h_m_freeColumns : Nat) (h_m_minor : Nat) (h_m_smallMinor : Nat) (h_m_fields : Nat) (h_m_rowCounts : Nat) (h_m_elements : Nat) (h_m_numbers : Nat) (h_m_known : Nat) (h_m_ranks : Nat) (h_m_rankOf : Nat) (h_m_signOf : Nat) (h_m_order : Nat) (h_m_sizes : Nat) (h_m_coefficients : Nat) (h_m_choices : Nat) (h_m_sorted : Nat) (m_rows : Int32) (m_columns : Int32) (m_prime : Int32) (v0 : Int32) (r : Int32) (h : f_R_inverse m_prime v0 = some r) : Met l y_Mo_inverse w_Mo_inverse ({ frames := 0, cells := 0, slots := 0, locals := 0 } : Room) (va_Pc [.ref h_m, .int v0] (fun U => U.heap.size = sz ∧ va_P (dC, dI) cl_all [(h_m, .inr (6, [.ref h_m_one, .ref h_m_two, .ref h_m_three, .ref h_m_four, .ref h_m_five, .ref h_m_six, .ref h_m_seven, .ref h_m_eight, .ref h_m_work, .ref h_m_small, .int m_rows, .int m_columns, .int m_prime, .ref h_m_pivots, .ref h_m_freeRows, .ref h_m_freeColumns, .ref h_m_minor, .ref h_m_smallMinor, .ref h_m_fields, .ref h_m_rowCounts, .ref h_m_elements, .ref h_m_numbers, .ref h_m_known, .ref h_m_ranks, .ref h_m_rankOf, .ref h_m_signOf, .ref h_m_order, .ref h_m_sizes, .ref h_m_coefficients, .ref h_m_choices, .ref h_m_sorted]))] U.heap ∧ va_K (dC, dI) cl_all [(cI, .int), (cJ, .long), (cB, .byte), (cZ, .boolean), (cT, .object "BasisWalk$Table"), (cN, .object "BasisWalkModel$Num")] U ∧ NW U ∧ va_D (fun _ => True) [(h_m, .inr (6, [.ref h_m_one, .ref h_m_two, .ref h_m_three, .ref h_m_four, .ref h_m_five, .ref h_m_six, .ref h_m_seven, .ref h_m_eight, .ref h_m_work, .ref h_m_small, .int m_rows, .int m_columns, .int m_prime, .ref h_m_pivots, .ref h_m_freeRows, .ref h_m_freeColumns, .ref h_m_minor, .ref h_m_smallMinor, .ref h_m_fields, .ref h_m_rowCounts, .ref h_m_elements, .ref h_m_numbers, .ref h_m_known, .ref h_m_ranks, .ref h_m_rankOf, .ref h_m_signOf, .ref h_m_order, .ref h_m_sizes, .ref h_m_coefficients, .ref h_m_choices, .ref h_m_sorted]))])) (va_Qi (fun (v : Int32) (_ : Unit) => v = r) (fun (u : Unit) (t : State) => va_P (dC, dI) cl_all [(h_m, .inr (6, [.ref h_m_one, .ref h_m_two, .ref h_m_three, .ref h_m_four, .ref h_m_five, .ref h_m_six, .ref h_m_seven, .ref h_m_eight, .ref h_m_work, .ref h_m_small, .int m_rows, .int m_columns, .int m_prime, .ref h_m_pivots, .ref h_m_freeRows, .ref h_m_freeColumns, .ref h_m_minor, .ref h_m_smallMinor, .ref h_m_fields, .ref h_m_rowCounts, .ref h_m_elements, .ref h_m_numbers, .ref h_m_known, .ref h_m_ranks, .ref h_m_rankOf, .ref h_m_signOf, .ref h_m_order, .ref h_m_sizes, .ref h_m_coefficients, .ref h_m_choices, .ref h_m_sorted]))] t.heap ∧ va_K (dC, dI) cl_all [(cI, .int), (cJ, .long), (cB, .byte), (cZ, .boolean), (cT, .object "BasisWalk$Table"), (cN, .object "BasisWalkModel$Num")] t ∧ va_D (va_A [(h_m, .inr (6, [.ref h_m_one, .ref h_m_two, .ref h_m_three, .ref h_m_four, .ref h_m_five, .ref h_m_six, .ref h_m_seven, .ref h_m_eight, .ref h_m_work, .ref h_m_small, .int m_rows, .int m_columns, .int m_prime, .ref h_m_pivots, .ref h_m_freeRows, .ref h_m_freeColumns, .ref h_m_minor, .ref h_m_smallMinor, .ref h_m_fields, .ref h_m_rowCounts, .ref h_m_elements, .ref h_m_numbers, .ref h_m_known, .ref h_m_ranks, .ref h_m_rankOf, .ref h_m_signOf, .ref h_m_order, .ref h_m_sizes, .ref h_m_coefficients, .ref h_m_choices, .ref h_m_sorted]))] sz) [(h_m, .inr (6, [.ref h_m_one, .ref h_m_two, .ref h_m_three, .ref h_m_four, .ref h_m_five, .ref h_m_six, .ref h_m_seven, .ref h_m_eight, .ref h_m_work, .ref h_m_small, .int m_rows, .int m_columns, .int m_prime, .ref h_m_pivots, .ref h_m_freeRows, .ref h_m_freeColumns, .ref h_m_minor, .ref h_m_smallMinor, .ref h_m_fields, .ref h_m_rowCounts, .ref h_m_elements, .ref h_m_numbers, .ref h_m_known, .ref h_m_ranks, .ref h_m_rankOf, .ref h_m_signOf, .ref h_m_order, .ref h_m_sizes, .ref h_m_coefficients, .ref h_m_choices, .ref h_m_sorted]))]) (va_A [(h_m, .inr (6, [.ref h_m_one, .ref h_m_two, .ref h_m_three, .ref h_m_four, .ref h_m_five, .ref h_m_six, .ref h_m_seven, .ref h_m_eight, .ref h_m_work, .ref h_m_small, .int m_rows, .int m_columns, .int m_prime, .ref h_m_pivots, .ref h_m_freeRows, .ref h_m_freeColumns, .ref h_m_minor, .ref h_m_smallMinor, .ref h_m_fields, .ref h_m_rowCounts, .ref h_m_elements, .ref h_m_numbers, .ref h_m_known, .ref h_m_ranks, .ref h_m_rankOf, .ref h_m_signOf, .ref h_m_order, .ref h_m_sizes, .ref h_m_coefficients, .ref h_m_choices, .ref h_m_sorted]))] sz)) 0 0 (va_A [(h_m, .inr (6, [.ref h_m_one, .ref h_m_two, .ref h_m_three, .ref h_m_four, .ref h_m_five, .ref h_m_six, .ref h_m_seven, .ref h_m_eight, .ref h_m_work, .ref h_m_small, .int m_rows, .int m_columns, .int m_prime, .ref h_m_pivots, .ref h_m_freeRows, .ref h_m_freeColumns, .ref h_m_minor, .ref h_m_smallMinor, .ref h_m_fields, .ref h_m_rowCounts, .ref h_m_elements, .ref h_m_numbers, .ref h_m_known, .ref h_m_ranks, .ref h_m_rankOf, .ref h_m_signOf, .ref h_m_order, .ref h_m_sizes, .ref h_m_coefficients, .ref h_m_choices, .ref h_m_sorted]))] sz) := by
  refine Met.ofW (cc := prog_7_method_7_code) (maxL := 3) (ret := (Option.some Jvm.ClassFile.FieldType.int)) (by decide) rfl ?_
  intro p e s m args below meth c s₁ B hml hv
  obtain ⟨hAR, hsz, hP, hK, hN, hD0⟩ := hv
  have hx := B.exec
  have hb := B.bytes
  have hr := B.returns
  have hts := atoms_spec (ws := w_Mo_inverse) B.pre
  have hown : s.vm.findClass "BasisWalkModel" = some m.cls := findClass_of_methodNamed B.named
  have hlocks := B.notSynchronized
  clear B
  subst hsz
  have hD := hD0.self (sz := s.heap.size)
  generalize hAe : va_A [(h_m, .inr (6, [.ref h_m_one, .ref h_m_two, .ref h_m_three, .ref h_m_four, .ref h_m_five, .ref h_m_six, .ref h_m_seven, .ref h_m_eight, .ref h_m_work, .ref h_m_small, .int m_rows, .int m_columns, .int m_prime, .ref h_m_pivots, .ref h_m_freeRows, .ref h_m_freeColumns, .ref h_m_minor, .ref h_m_smallMinor, .ref h_m_fields, .ref h_m_rowCounts, .ref h_m_elements, .ref h_m_numbers, .ref h_m_known, .ref h_m_ranks, .ref h_m_rankOf, .ref h_m_signOf, .ref h_m_order, .ref h_m_sizes, .ref h_m_coefficients, .ref h_m_choices, .ref h_m_sorted]))] s.heap.size = A at hD ⊢
  have hA : ∀ q : Nat, s.heap.size ≤ q → A q := fun q h => by rw [← hAe]; exact Or.inr h
  clear hAe hD0
  have hS : va_S A s.heap s.heap [] := va_S.rf
  have hl := lv_entry ([.ref h_m, .int v0]) (n := 3) (Nat.le_of_ble_eq_true rfl)
  subst hAR
  rw [lg_entry_eq]
  generalize (lg_sl ([.ref h_m, .int v0]) ++ List.replicate (3 - (lg_sl ([.ref h_m, .int v0])).length) Slot.unset).toArray = ls at hl ⊢
  have hl : lv_has ls 3 [(0, .ref h_m), (1, .int v0)] := hl
  change W p l e ({ frames := 0, cells := 0, slots := 0, locals := 0 } : Room) s m _ below meth c s.heap [] 0 0 _ _
  generalize hARe : ([.ref h_m, .int v0] : List Value).toArray = AR at hts ⊢
  clear hARe
  generalize hQ : MQ below _ AR s 0 0 A = QQ
  have fl0 := hts _ (List.mem_cons_of_mem _ tw_367)
  have iw1 := (fun w hw => List.mem_cons_of_mem _ (in_Mo w hw) : ∀ w ∈ u_ws "BasisWalkModel" T_Mo 31, w ∈ w_Mo_inverse)
  obtain ⟨H, hHe⟩ : ∃ H : Heap, H = s.heap := ⟨_, rfl⟩
  rw [← hHe] at hP ⊢
  replace hS : va_S A s.heap H [] := by rw [hHe]; exact va_S.rf
  clear hHe
  unfold f_R_inverse at h
  refine lv_iconst (v := 1) hx hb d_Mo_inverse_0 (by decide) ?_
  refine lv_istore_n (lv' := [(2, .int 1), (0, .ref h_m), (1, .int v0)]) hx hb d_Mo_inverse_1 rfl hl (by decide) rfl (fun ls hl => ?_)
  refine lo1_W (r := r) (fun (v2_1 : Int32) => ∀ (H : Heap) (locs : List Loc), va_P (dC, dI) cl_all [(h_m, .inr (6, [.ref h_m_one, .ref h_m_two, .ref h_m_three, .ref h_m_four, .ref h_m_five, .ref h_m_six, .ref h_m_seven, .ref h_m_eight, .ref h_m_work, .ref h_m_small, .int m_rows, .int m_columns, .int m_prime, .ref h_m_pivots, .ref h_m_freeRows, .ref h_m_freeColumns, .ref h_m_minor, .ref h_m_smallMinor, .ref h_m_fields, .ref h_m_rowCounts, .ref h_m_elements, .ref h_m_numbers, .ref h_m_known, .ref h_m_ranks, .ref h_m_rankOf, .ref h_m_signOf, .ref h_m_order, .ref h_m_sizes, .ref h_m_coefficients, .ref h_m_choices, .ref h_m_sorted]))] H → va_D A [(h_m, .inr (6, [.ref h_m_one, .ref h_m_two, .ref h_m_three, .ref h_m_four, .ref h_m_five, .ref h_m_six, .ref h_m_seven, .ref h_m_eight, .ref h_m_work, .ref h_m_small, .int m_rows, .int m_columns, .int m_prime, .ref h_m_pivots, .ref h_m_freeRows, .ref h_m_freeColumns, .ref h_m_minor, .ref h_m_smallMinor, .ref h_m_fields, .ref h_m_rowCounts, .ref h_m_elements, .ref h_m_numbers, .ref h_m_known, .ref h_m_ranks, .ref h_m_rankOf, .ref h_m_signOf, .ref h_m_order, .ref h_m_sizes, .ref h_m_coefficients, .ref h_m_choices, .ref h_m_sorted]))] → va_S A s.heap H locs → ∀ ls : Array Slot, lv_has ls 3 [(0, .ref h_m), (1, .int v0), (2, .int v2_1)] → W p l e ({ frames := 0, cells := 0, slots := 0, locals := 0 } : Room) s m AR below meth c H locs 0 0 QQ (F0 m 2 ls [])) ?_ _ _ h _ _ hP hD hS _ (lv_sub hl [1, 2, 0] rfl)
  intro k_2 v2_1 J_2 h H locs hP hD hS ls hl
  refine lv_iload_n hx hb d_Mo_inverse_2 rfl (lv_at hl 2 rfl) ?_
  refine lv_iload_n hx hb d_Mo_inverse_3 rfl (lv_at hl 1 rfl) ?_
  refine lv_imul hx hb d_Mo_inverse_4 ?_
  refine lv_aload_n hx hb d_Mo_inverse_5 rfl (lv_at hl 0 rfl) ?_
  refine va_get (D := (dC, dI)) (ci := 6) (v := .int m_prime) (C := "BasisWalkModel") (T := T_Mo) (N := 31) hx hb hts iw1 hown hK hP 0 rfl rfl 12 (by decide) fl0 (fun _ h9 => h9) rfl d_Mo_inverse_6 ?_
  obtain ⟨g_2, h⟩ := ck_nz_s h
  refine lv_irem hx hb d_Mo_inverse_9 g_2 ?_
  refine lv_iconst (v := 1) hx hb d_Mo_inverse_10 (by decide) ?_
  refine lv_icmp_eq (tgt := 20) hx hb d_Mo_inverse_11 (by decide) (fun c_3 => ?_) (fun c_3 => ?_)
  · replace h := ck_if_t h c_3
    refine lv_iload_n hx hb d_Mo_inverse_20 rfl (lv_at hl 2 rfl) ?_
    obtain rfl := Option.some.inj h
    subst hQ
    exact W.iret (v := v2_1) hx hb hr (fun t ht hW => ⟨⟨v2_1, (), rfl, rfl, by rw [ht]; exact hP, va_K.moved hW.alike hK, hD⟩, hS.F ht⟩) hS.2.2 d_Mo_inverse_21
  · replace h := ck_if_f h c_3
    obtain ⟨x_4, ex_4⟩ : ∃ y : Int32, y = v2_1 + 1 := ⟨_, rfl⟩
    replace h := ck_nm_s h ex_4
    refine lv_iinc (v := x_4) (lv' := [(2, .int x_4), (0, .ref h_m), (1, .int v0)]) hx hb d_Mo_inverse_14 hl (k := 2) rfl (by rw [ex_4]; rfl) (by decide) rfl (fun ls hl => ?_)
    refine lv_goto (tgt := 2) hx hb d_Mo_inverse_17 (by decide) ?_
    exact J_2 _ h _ _ hP hD hS _ (lv_sub hl [1, 2, 0] rfl)
theorem d_Mo_placeOf_0 : decode prog_7_method_13_code 0 = .ok (.iconst 0, 1) := by decide +kernel
theorem d_Mo_placeOf_1 : decode prog_7_method_13_code 1 = .ok (.istore_n 3, 1) := by decide +kernel
theorem d_Mo_placeOf_2 : decode prog_7_method_13_code 2 = .ok (.iload_n 3, 1) := by decide +kernel
theorem d_Mo_placeOf_3 : decode prog_7_method_13_code 3 = .ok (.iload_n 1, 1) := by decide +kernel
theorem d_Mo_placeOf_4 : decode prog_7_method_13_code 4 = .ok (.if_icmp .ge 16, 3) := by decide +kernel
theorem d_Mo_placeOf_7 : decode prog_7_method_13_code 7 = .ok (.aload_n 0, 1) := by decide +kernel
theorem d_Mo_placeOf_8 : decode prog_7_method_13_code 8 = .ok (.iload_n 3, 1) := by decide +kernel
theorem d_Mo_placeOf_9 : decode prog_7_method_13_code 9 = .ok (.iaload, 1) := by decide +kernel
theorem d_Mo_placeOf_10 : decode prog_7_method_13_code 10 = .ok (.iload_n 2, 1) := by decide +kernel
theorem d_Mo_placeOf_11 : decode prog_7_method_13_code 11 = .ok (.if_icmp .eq 9, 3) := by decide +kernel
theorem d_Mo_placeOf_14 : decode prog_7_method_13_code 14 = .ok (.iinc 3 1, 3) := by decide +kernel
theorem d_Mo_placeOf_17 : decode prog_7_method_13_code 17 = .ok (.goto (-15), 3) := by decide +kernel
theorem d_Mo_placeOf_20 : decode prog_7_method_13_code 20 = .ok (.iload_n 3, 1) := by decide +kernel
theorem d_Mo_placeOf_21 : decode prog_7_method_13_code 21 = .ok (.ireturn, 1) := by decide +kernel
def f_R_placeOf (row_n : Nat) (row : Nat → Int32) (n0 : Int32) (v0 : Int32) : Option (Int32) :=
  lo1 (fun k_2 (v3_1 : Int32) => ck_if (n0 ≤ v3_1) (some v3_1) (ck_in v3_1 row_n <| ck_if ((row v3_1.toNatClampNeg) = v0) (some v3_1) (ck_nm (v3_1 + 1) <| fun x_5 => k_2 x_5))) ck_F 0
set_option maxHeartbeats 4000000 in
set_option maxRecDepth 100000 in
theorem c_R_placeOf (l : Launch) (dC : Nat → ClassId) (dI : Nat → Nat → Nat) (cI cJ cB cZ cT cN : ClassId) (sz : Nat) (h_row : Nat) (row_n : Nat) (row : Nat → Int32) (n0 : Int32) (v0 : Int32) (r : Int32) (h : f_R_placeOf row_n row n0 v0 = some r) : Met l y_Mo_placeOf w_Mo_placeOf ({ frames := 0, cells := 0, slots := 0, locals := 0 } : Room) (va_Pc [.ref h_row, .int n0, .int v0] (fun U => U.heap.size = sz ∧ va_P (dC, dI) cl_all [(h_row, .inl (cI, row_n, .inl row))] U.heap ∧ va_K (dC, dI) cl_all [(cI, .int), (cJ, .long), (cB, .byte), (cZ, .boolean), (cT, .object "BasisWalk$Table"), (cN, .object "BasisWalkModel$Num")] U ∧ NW U ∧ va_D (fun _ => True) [(h_row, .inl (cI, row_n, .inl row))])) (va_Qi (fun (v : Int32) (_ : Unit) => v = r) (fun (u : Unit) (t : State) => va_P (dC, dI) cl_all [(h_row, .inl (cI, row_n, .inl row))] t.heap ∧ va_K (dC, dI) cl_all [(cI, .int), (cJ, .long), (cB, .byte), (cZ, .boolean), (cT, .object "BasisWalk$Table"), (cN, .object "BasisWalkModel$Num")] t ∧ va_D (va_A [(h_row, .inl (cI, row_n, .inl row))] sz) [(h_row, .inl (cI, row_n, .inl row))]) (va_A [(h_row, .inl (cI, row_n, .inl row))] sz)) 0 0 (va_A [(h_row, .inl (cI, row_n, .inl row))] sz) := by
  refine Met.ofW (cc := prog_7_method_13_code) (maxL := 4) (ret := (Option.some Jvm.ClassFile.FieldType.int)) (by decide) rfl ?_
  intro p e s m args below meth c s₁ B hml hv
  obtain ⟨hAR, hsz, hP, hK, hN, hD0⟩ := hv
  have hx := B.exec
  have hb := B.bytes
  have hr := B.returns
  have hts := atoms_spec (ws := w_Mo_placeOf) B.pre
  have hown : s.vm.findClass "BasisWalkModel" = some m.cls := findClass_of_methodNamed B.named
  have hlocks := B.notSynchronized
  clear B
  subst hsz
  have hD := hD0.self (sz := s.heap.size)
  generalize hAe : va_A [(h_row, .inl (cI, row_n, .inl row))] s.heap.size = A at hD ⊢
  have hA : ∀ q : Nat, s.heap.size ≤ q → A q := fun q h => by rw [← hAe]; exact Or.inr h
  clear hAe hD0
  have hS : va_S A s.heap s.heap [] := va_S.rf
  have hl := lv_entry ([.ref h_row, .int n0, .int v0]) (n := 4) (Nat.le_of_ble_eq_true rfl)
  subst hAR
  rw [lg_entry_eq]
  generalize (lg_sl ([.ref h_row, .int n0, .int v0]) ++ List.replicate (4 - (lg_sl ([.ref h_row, .int n0, .int v0])).length) Slot.unset).toArray = ls at hl ⊢
  have hl : lv_has ls 4 [(0, .ref h_row), (1, .int n0), (2, .int v0)] := hl
  change W p l e ({ frames := 0, cells := 0, slots := 0, locals := 0 } : Room) s m _ below meth c s.heap [] 0 0 _ _
  generalize hARe : ([.ref h_row, .int n0, .int v0] : List Value).toArray = AR at hts ⊢
  clear hARe
  generalize hQ : MQ below _ AR s 0 0 A = QQ
  obtain ⟨H, hHe⟩ : ∃ H : Heap, H = s.heap := ⟨_, rfl⟩
  rw [← hHe] at hP ⊢
  replace hS : va_S A s.heap H [] := by rw [hHe]; exact va_S.rf
  clear hHe
  unfold f_R_placeOf at h
  refine lv_iconst (v := 0) hx hb d_Mo_placeOf_0 (by decide) ?_
  refine lv_istore_n (lv' := [(3, .int 0), (0, .ref h_row), (1, .int n0), (2, .int v0)]) hx hb d_Mo_placeOf_1 rfl hl (by decide) rfl (fun ls hl => ?_)
  refine lo1_W (r := r) (fun (v3_1 : Int32) => ∀ (H : Heap) (locs : List Loc), va_P (dC, dI) cl_all [(h_row, .inl (cI, row_n, .inl row))] H → va_D A [(h_row, .inl (cI, row_n, .inl row))] → va_S A s.heap H locs → ∀ ls : Array Slot, lv_has ls 4 [(0, .ref h_row), (1, .int n0), (2, .int v0), (3, .int v3_1)] → W p l e ({ frames := 0, cells := 0, slots := 0, locals := 0 } : Room) s m AR below meth c H locs 0 0 QQ (F0 m 2 ls [])) ?_ _ _ h _ _ hP hD hS _ (lv_sub hl [1, 2, 3, 0] rfl)
  intro k_2 v3_1 J_2 h H locs hP hD hS ls hl
  refine lv_iload_n hx hb d_Mo_placeOf_2 rfl (lv_at hl 3 rfl) ?_
  refine lv_iload_n hx hb d_Mo_placeOf_3 rfl (lv_at hl 1 rfl) ?_
  refine lv_icmp_ge (tgt := 20) hx hb d_Mo_placeOf_4 (by decide) (fun c_2 => ?_) (fun c_2 => ?_)
  · replace h := ck_if_t h c_2
    refine lv_iload_n hx hb d_Mo_placeOf_20 rfl (lv_at hl 3 rfl) ?_
    obtain rfl := Option.some.inj h
    subst hQ
    exact W.iret (v := v3_1) hx hb hr (fun t ht hW => ⟨⟨v3_1, (), rfl, rfl, by rw [ht]; exact hP, va_K.moved hW.alike hK, hD⟩, hS.F ht⟩) hS.2.2 d_Mo_placeOf_21
  · replace h := ck_if_f h c_2
    refine lv_aload_n hx hb d_Mo_placeOf_7 rfl (lv_at hl 0 rfl) ?_
    refine lv_iload_n hx hb d_Mo_placeOf_8 rfl (lv_at hl 3 rfl) ?_
    obtain ⟨g_3, h⟩ := ck_in_s h
    refine va_iald hx hb hK hP 0 0 rfl rfl g_3 d_Mo_placeOf_9 ?_
    refine lv_iload_n hx hb d_Mo_placeOf_10 rfl (lv_at hl 2 rfl) ?_
    refine lv_icmp_eq (tgt := 20) hx hb d_Mo_placeOf_11 (by decide) (fun c_4 => ?_) (fun c_4 => ?_)
    · replace h := ck_if_t h c_4
      refine lv_iload_n hx hb d_Mo_placeOf_20 rfl (lv_at hl 3 rfl) ?_
      obtain rfl := Option.some.inj h
      subst hQ
      exact W.iret (v := v3_1) hx hb hr (fun t ht hW => ⟨⟨v3_1, (), rfl, rfl, by rw [ht]; exact hP, va_K.moved hW.alike hK, hD⟩, hS.F ht⟩) hS.2.2 d_Mo_placeOf_21
    · replace h := ck_if_f h c_4
      obtain ⟨x_5, ex_5⟩ : ∃ y : Int32, y = v3_1 + 1 := ⟨_, rfl⟩
      replace h := ck_nm_s h ex_5
      refine lv_iinc (v := x_5) (lv' := [(3, .int x_5), (0, .ref h_row), (1, .int n0), (2, .int v0)]) hx hb d_Mo_placeOf_14 hl (k := 3) rfl (by rw [ex_5]; rfl) (by decide) rfl (fun ls hl => ?_)
      refine lv_goto (tgt := 2) hx hb d_Mo_placeOf_17 (by decide) ?_
      exact J_2 _ h _ _ hP hD hS _ (lv_sub hl [1, 2, 3, 0] rfl)
theorem d_Mo_remove_0 : decode prog_7_method_14_code 0 = .ok (.iload_n 2, 1) := by decide +kernel
theorem d_Mo_remove_1 : decode prog_7_method_14_code 1 = .ok (.istore_n 3, 1) := by decide +kernel
theorem d_Mo_remove_2 : decode prog_7_method_14_code 2 = .ok (.iload_n 3, 1) := by decide +kernel
theorem d_Mo_remove_3 : decode prog_7_method_14_code 3 = .ok (.iconst 1, 1) := by decide +kernel
theorem d_Mo_remove_4 : decode prog_7_method_14_code 4 = .ok (.iadd, 1) := by decide +kernel
theorem d_Mo_remove_5 : decode prog_7_method_14_code 5 = .ok (.iload_n 1, 1) := by decide +kernel
theorem d_Mo_remove_6 : decode prog_7_method_14_code 6 = .ok (.if_icmp .ge 17, 3) := by decide +kernel
theorem d_Mo_remove_9 : decode prog_7_method_14_code 9 = .ok (.aload_n 0, 1) := by decide +kernel
theorem d_Mo_remove_10 : decode prog_7_method_14_code 10 = .ok (.iload_n 3, 1) := by decide +kernel
theorem d_Mo_remove_11 : decode prog_7_method_14_code 11 = .ok (.aload_n 0, 1) := by decide +kernel
theorem d_Mo_remove_12 : decode prog_7_method_14_code 12 = .ok (.iload_n 3, 1) := by decide +kernel
theorem d_Mo_remove_13 : decode prog_7_method_14_code 13 = .ok (.iconst 1, 1) := by decide +kernel
theorem d_Mo_remove_14 : decode prog_7_method_14_code 14 = .ok (.iadd, 1) := by decide +kernel
theorem d_Mo_remove_15 : decode prog_7_method_14_code 15 = .ok (.iaload, 1) := by decide +kernel
theorem d_Mo_remove_16 : decode prog_7_method_14_code 16 = .ok (.iastore, 1) := by decide +kernel
theorem d_Mo_remove_17 : decode prog_7_method_14_code 17 = .ok (.iinc 3 1, 3) := by decide +kernel
theorem d_Mo_remove_20 : decode prog_7_method_14_code 20 = .ok (.goto (-18), 3) := by decide +kernel
theorem d_Mo_remove_23 : decode prog_7_method_14_code 23 = .ok (.return_, 1) := by decide +kernel
def f_R_remove (row_n : Nat) (row : Nat → Int32) (n0 : Int32) (place0 : Int32) : Option ((Nat → Int32)) :=
  lo2 (fun k_2 (v3_1 : Int32) (w_2 : Nat → Int32) => ck_if (n0 ≤ (v3_1 + 1)) (some w_2) (ck_in (v3_1 + 1) row_n <| ck_in v3_1 row_n <| ck_nm (v3_1 + 1) <| fun x_6 => k_2 x_6 (upd w_2 v3_1.toNatClampNeg (w_2 (v3_1 + 1).toNatClampNeg)))) ck_F place0 row
set_option maxHeartbeats 4000000 in
set_option maxRecDepth 100000 in
theorem c_R_remove (l : Launch) (dC : Nat → ClassId) (dI : Nat → Nat → Nat) (cI cJ cB cZ cT cN : ClassId) (sz : Nat) (h_row : Nat) (row_n : Nat) (row : Nat → Int32) (n0 : Int32) (place0 : Int32) (r : (Nat → Int32)) (h : f_R_remove row_n row n0 place0 = some r) : Met l y_Mo_remove w_Mo_remove ({ frames := 0, cells := 0, slots := 0, locals := 0 } : Room) (va_Pc [.ref h_row, .int n0, .int place0] (fun U => U.heap.size = sz ∧ va_P (dC, dI) cl_all [(h_row, .inl (cI, row_n, .inl row))] U.heap ∧ va_K (dC, dI) cl_all [(cI, .int), (cJ, .long), (cB, .byte), (cZ, .boolean), (cT, .object "BasisWalk$Table"), (cN, .object "BasisWalkModel$Num")] U ∧ NW U ∧ va_D (fun _ => True) [(h_row, .inl (cI, row_n, .inl row))])) (va_Qv (fun u : (Nat → Int32) => u = r) (fun (u : (Nat → Int32)) (t : State) => va_P (dC, dI) cl_all [(h_row, .inl (cI, row_n, .inl u))] t.heap ∧ va_K (dC, dI) cl_all [(cI, .int), (cJ, .long), (cB, .byte), (cZ, .boolean), (cT, .object "BasisWalk$Table"), (cN, .object "BasisWalkModel$Num")] t ∧ va_D (va_A [(h_row, .inl (cI, row_n, .inl row))] sz) [(h_row, .inl (cI, row_n, .inl u))]) (va_A [(h_row, .inl (cI, row_n, .inl row))] sz)) 0 0 (va_A [(h_row, .inl (cI, row_n, .inl row))] sz) := by
  refine Met.ofW (cc := prog_7_method_14_code) (maxL := 4) (ret := (Option.none : Option Jvm.ClassFile.FieldType)) (by decide) rfl ?_
  intro p e s m args below meth c s₁ B hml hv
  obtain ⟨hAR, hsz, hP, hK, hN, hD0⟩ := hv
  have hx := B.exec
  have hb := B.bytes
  have hr := B.returns
  have hts := atoms_spec (ws := w_Mo_remove) B.pre
  have hown : s.vm.findClass "BasisWalkModel" = some m.cls := findClass_of_methodNamed B.named
  have hlocks := B.notSynchronized
  clear B
  subst hsz
  have hD := hD0.self (sz := s.heap.size)
  generalize hAe : va_A [(h_row, .inl (cI, row_n, .inl row))] s.heap.size = A at hD ⊢
  have hA : ∀ q : Nat, s.heap.size ≤ q → A q := fun q h => by rw [← hAe]; exact Or.inr h
  clear hAe hD0
  have hS : va_S A s.heap s.heap [] := va_S.rf
  have hl := lv_entry ([.ref h_row, .int n0, .int place0]) (n := 4) (Nat.le_of_ble_eq_true rfl)
  subst hAR
  rw [lg_entry_eq]
  generalize (lg_sl ([.ref h_row, .int n0, .int place0]) ++ List.replicate (4 - (lg_sl ([.ref h_row, .int n0, .int place0])).length) Slot.unset).toArray = ls at hl ⊢
  have hl : lv_has ls 4 [(0, .ref h_row), (1, .int n0), (2, .int place0)] := hl
  change W p l e ({ frames := 0, cells := 0, slots := 0, locals := 0 } : Room) s m _ below meth c s.heap [] 0 0 _ _
  generalize hARe : ([.ref h_row, .int n0, .int place0] : List Value).toArray = AR at hts ⊢
  clear hARe
  generalize hQ : MQ below _ AR s 0 0 A = QQ
  obtain ⟨H, hHe⟩ : ∃ H : Heap, H = s.heap := ⟨_, rfl⟩
  rw [← hHe] at hP ⊢
  replace hS : va_S A s.heap H [] := by rw [hHe]; exact va_S.rf
  clear hHe
  unfold f_R_remove at h
  refine lv_iload_n hx hb d_Mo_remove_0 rfl (lv_at hl 2 rfl) ?_
  refine lv_istore_n (lv' := [(3, .int place0), (0, .ref h_row), (1, .int n0), (2, .int place0)]) hx hb d_Mo_remove_1 rfl hl (by decide) rfl (fun ls hl => ?_)
  refine lo2_W (r := r) (fun (v3_1 : Int32) (w_2 : Nat → Int32) => ∀ (H : Heap) (locs : List Loc), va_P (dC, dI) cl_all [(h_row, .inl (cI, row_n, .inl w_2))] H → va_D A [(h_row, .inl (cI, row_n, .inl w_2))] → va_S A s.heap H locs → ∀ ls : Array Slot, lv_has ls 4 [(0, .ref h_row), (1, .int n0), (3, .int v3_1)] → W p l e ({ frames := 0, cells := 0, slots := 0, locals := 0 } : Room) s m AR below meth c H locs 0 0 QQ (F0 m 2 ls [])) ?_ _ _ _ h _ _ hP hD hS _ (lv_sub hl [1, 2, 0] rfl)
  intro k_2 v3_1 w_2 J_2 h H locs hP hD hS ls hl
  refine lv_iload_n hx hb d_Mo_remove_2 rfl (lv_at hl 2 rfl) ?_
  refine lv_iconst (v := 1) hx hb d_Mo_remove_3 (by decide) ?_
  refine lv_iadd hx hb d_Mo_remove_4 ?_
  refine lv_iload_n hx hb d_Mo_remove_5 rfl (lv_at hl 1 rfl) ?_
  refine lv_icmp_ge (tgt := 23) hx hb d_Mo_remove_6 (by decide) (fun c_3 => ?_) (fun c_3 => ?_)
  · replace h := ck_if_t h c_3
    obtain rfl := Option.some.inj h
    subst hQ
    exact W.vret hx hb hr (fun t ht hW => ⟨⟨w_2, rfl, rfl, by rw [ht]; exact hP, va_K.moved hW.alike hK, hD⟩, hS.F ht⟩) hS.2.2 d_Mo_remove_23
  · replace h := ck_if_f h c_3
    refine lv_aload_n hx hb d_Mo_remove_9 rfl (lv_at hl 0 rfl) ?_
    refine lv_iload_n hx hb d_Mo_remove_10 rfl (lv_at hl 2 rfl) ?_
    refine lv_aload_n hx hb d_Mo_remove_11 rfl (lv_at hl 0 rfl) ?_
    refine lv_iload_n hx hb d_Mo_remove_12 rfl (lv_at hl 2 rfl) ?_
    refine lv_iconst (v := 1) hx hb d_Mo_remove_13 (by decide) ?_
    refine lv_iadd hx hb d_Mo_remove_14 ?_
    obtain ⟨g_4, h⟩ := ck_in_s h
    refine va_iald hx hb hK hP 0 0 rfl rfl g_4 d_Mo_remove_15 ?_
    obtain ⟨g_5, h⟩ := ck_in_s h
    refine va_iast hx hb hK hP hD hS 0 0 rfl rfl g_5 d_Mo_remove_16 (fun H locs hP hD hS => ?_)
    have hP : va_P (dC, dI) cl_all [(h_row, .inl (cI, row_n, .inl (upd w_2 v3_1.toNatClampNeg (w_2 (v3_1 + 1).toNatClampNeg))))] H := hP
    have hD : va_D A [(h_row, .inl (cI, row_n, .inl (upd w_2 v3_1.toNatClampNeg (w_2 (v3_1 + 1).toNatClampNeg))))] := hD
    obtain ⟨x_6, ex_6⟩ : ∃ y : Int32, y = v3_1 + 1 := ⟨_, rfl⟩
    replace h := ck_nm_s h ex_6
    refine lv_iinc (v := x_6) (lv' := [(3, .int x_6), (0, .ref h_row), (1, .int n0)]) hx hb d_Mo_remove_17 hl (k := 2) rfl (by rw [ex_6]; rfl) (by decide) rfl (fun ls hl => ?_)
    refine lv_goto (tgt := 2) hx hb d_Mo_remove_20 (by decide) ?_
    exact J_2 _ _ h _ _ hP hD hS _ (lv_sub hl [1, 2, 0] rfl)
theorem d_Mo_smallDeterminant_0 : decode prog_7_method_15_code 0 = .ok (.iconst 0, 1) := by decide +kernel
theorem d_Mo_smallDeterminant_1 : decode prog_7_method_15_code 1 = .ok (.istore_n 2, 1) := by decide +kernel
theorem d_Mo_smallDeterminant_2 : decode prog_7_method_15_code 2 = .ok (.iload_n 2, 1) := by decide +kernel
theorem d_Mo_smallDeterminant_3 : decode prog_7_method_15_code 3 = .ok (.iload_n 1, 1) := by decide +kernel
theorem d_Mo_smallDeterminant_4 : decode prog_7_method_15_code 4 = .ok (.if_icmp .ge 54, 3) := by decide +kernel
theorem d_Mo_smallDeterminant_7 : decode prog_7_method_15_code 7 = .ok (.iconst 0, 1) := by decide +kernel
theorem d_Mo_smallDeterminant_8 : decode prog_7_method_15_code 8 = .ok (.istore_n 3, 1) := by decide +kernel
theorem d_Mo_smallDeterminant_9 : decode prog_7_method_15_code 9 = .ok (.iload_n 3, 1) := by decide +kernel
theorem d_Mo_smallDeterminant_10 : decode prog_7_method_15_code 10 = .ok (.iload_n 1, 1) := by decide +kernel
theorem d_Mo_smallDeterminant_11 : decode prog_7_method_15_code 11 = .ok (.if_icmp .ge 41, 3) := by decide +kernel
theorem d_Mo_smallDeterminant_14 : decode prog_7_method_15_code 14 = .ok (.aload_n 0, 1) := by decide +kernel
theorem d_Mo_smallDeterminant_15 : decode prog_7_method_15_code 15 = .ok (.getfield 137, 3) := by decide +kernel
theorem d_Mo_smallDeterminant_18 : decode prog_7_method_15_code 18 = .ok (.bipush 6, 2) := by decide +kernel
theorem d_Mo_smallDeterminant_20 : decode prog_7_method_15_code 20 = .ok (.iload_n 2, 1) := by decide +kernel
theorem d_Mo_smallDeterminant_21 : decode prog_7_method_15_code 21 = .ok (.imul, 1) := by decide +kernel
theorem d_Mo_smallDeterminant_22 : decode prog_7_method_15_code 22 = .ok (.iload_n 3, 1) := by decide +kernel
theorem d_Mo_smallDeterminant_23 : decode prog_7_method_15_code 23 = .ok (.iadd, 1) := by decide +kernel
theorem d_Mo_smallDeterminant_24 : decode prog_7_method_15_code 24 = .ok (.aload_n 0, 1) := by decide +kernel
theorem d_Mo_smallDeterminant_25 : decode prog_7_method_15_code 25 = .ok (.getfield 55, 3) := by decide +kernel
theorem d_Mo_smallDeterminant_28 : decode prog_7_method_15_code 28 = .ok (.bipush 12, 2) := by decide +kernel
theorem d_Mo_smallDeterminant_30 : decode prog_7_method_15_code 30 = .ok (.aload_n 0, 1) := by decide +kernel
theorem d_Mo_smallDeterminant_31 : decode prog_7_method_15_code 31 = .ok (.getfield 120, 3) := by decide +kernel
theorem d_Mo_smallDeterminant_34 : decode prog_7_method_15_code 34 = .ok (.iload_n 2, 1) := by decide +kernel
theorem d_Mo_smallDeterminant_35 : decode prog_7_method_15_code 35 = .ok (.iaload, 1) := by decide +kernel
theorem d_Mo_smallDeterminant_36 : decode prog_7_method_15_code 36 = .ok (.imul, 1) := by decide +kernel
theorem d_Mo_smallDeterminant_37 : decode prog_7_method_15_code 37 = .ok (.aload_n 0, 1) := by decide +kernel
theorem d_Mo_smallDeterminant_38 : decode prog_7_method_15_code 38 = .ok (.getfield 117, 3) := by decide +kernel
theorem d_Mo_smallDeterminant_41 : decode prog_7_method_15_code 41 = .ok (.iload_n 3, 1) := by decide +kernel
theorem d_Mo_smallDeterminant_42 : decode prog_7_method_15_code 42 = .ok (.iaload, 1) := by decide +kernel
theorem d_Mo_smallDeterminant_43 : decode prog_7_method_15_code 43 = .ok (.iadd, 1) := by decide +kernel
theorem d_Mo_smallDeterminant_44 : decode prog_7_method_15_code 44 = .ok (.iaload, 1) := by decide +kernel
theorem d_Mo_smallDeterminant_45 : decode prog_7_method_15_code 45 = .ok (.iastore, 1) := by decide +kernel
theorem d_Mo_smallDeterminant_46 : decode prog_7_method_15_code 46 = .ok (.iinc 3 1, 3) := by decide +kernel
theorem d_Mo_smallDeterminant_49 : decode prog_7_method_15_code 49 = .ok (.goto (-40), 3) := by decide +kernel
theorem d_Mo_smallDeterminant_52 : decode prog_7_method_15_code 52 = .ok (.iinc 2 1, 3) := by decide +kernel
theorem d_Mo_smallDeterminant_55 : decode prog_7_method_15_code 55 = .ok (.goto (-53), 3) := by decide +kernel
theorem d_Mo_smallDeterminant_58 : decode prog_7_method_15_code 58 = .ok (.iconst 0, 1) := by decide +kernel
theorem d_Mo_smallDeterminant_59 : decode prog_7_method_15_code 59 = .ok (.istore_n 2, 1) := by decide +kernel
theorem d_Mo_smallDeterminant_60 : decode prog_7_method_15_code 60 = .ok (.iload_n 2, 1) := by decide +kernel
theorem d_Mo_smallDeterminant_61 : decode prog_7_method_15_code 61 = .ok (.iload_n 1, 1) := by decide +kernel
theorem d_Mo_smallDeterminant_62 : decode prog_7_method_15_code 62 = .ok (.if_icmp .ge 233, 3) := by decide +kernel
theorem d_Mo_smallDeterminant_65 : decode prog_7_method_15_code 65 = .ok (.iload_n 2, 1) := by decide +kernel
theorem d_Mo_smallDeterminant_66 : decode prog_7_method_15_code 66 = .ok (.istore_n 3, 1) := by decide +kernel
theorem d_Mo_smallDeterminant_67 : decode prog_7_method_15_code 67 = .ok (.iload_n 3, 1) := by decide +kernel
theorem d_Mo_smallDeterminant_68 : decode prog_7_method_15_code 68 = .ok (.iload_n 1, 1) := by decide +kernel
theorem d_Mo_smallDeterminant_69 : decode prog_7_method_15_code 69 = .ok (.if_icmp .ge 23, 3) := by decide +kernel
theorem d_Mo_smallDeterminant_72 : decode prog_7_method_15_code 72 = .ok (.aload_n 0, 1) := by decide +kernel
theorem d_Mo_smallDeterminant_73 : decode prog_7_method_15_code 73 = .ok (.getfield 137, 3) := by decide +kernel
theorem d_Mo_smallDeterminant_76 : decode prog_7_method_15_code 76 = .ok (.bipush 6, 2) := by decide +kernel
theorem d_Mo_smallDeterminant_78 : decode prog_7_method_15_code 78 = .ok (.iload_n 3, 1) := by decide +kernel
theorem d_Mo_smallDeterminant_79 : decode prog_7_method_15_code 79 = .ok (.imul, 1) := by decide +kernel
theorem d_Mo_smallDeterminant_80 : decode prog_7_method_15_code 80 = .ok (.iload_n 2, 1) := by decide +kernel
theorem d_Mo_smallDeterminant_81 : decode prog_7_method_15_code 81 = .ok (.iadd, 1) := by decide +kernel
theorem d_Mo_smallDeterminant_82 : decode prog_7_method_15_code 82 = .ok (.iaload, 1) := by decide +kernel
theorem d_Mo_smallDeterminant_83 : decode prog_7_method_15_code 83 = .ok (.ifCond .ne 9, 3) := by decide +kernel
theorem d_Mo_smallDeterminant_86 : decode prog_7_method_15_code 86 = .ok (.iinc 3 1, 3) := by decide +kernel
theorem d_Mo_smallDeterminant_89 : decode prog_7_method_15_code 89 = .ok (.goto (-22), 3) := by decide +kernel
theorem d_Mo_smallDeterminant_92 : decode prog_7_method_15_code 92 = .ok (.iload_n 3, 1) := by decide +kernel
theorem d_Mo_smallDeterminant_93 : decode prog_7_method_15_code 93 = .ok (.iload_n 1, 1) := by decide +kernel
theorem d_Mo_smallDeterminant_94 : decode prog_7_method_15_code 94 = .ok (.if_icmp .ne 5, 3) := by decide +kernel
theorem d_Mo_smallDeterminant_97 : decode prog_7_method_15_code 97 = .ok (.iconst 0, 1) := by decide +kernel
theorem d_Mo_smallDeterminant_98 : decode prog_7_method_15_code 98 = .ok (.ireturn, 1) := by decide +kernel
theorem d_Mo_smallDeterminant_99 : decode prog_7_method_15_code 99 = .ok (.iconst 0, 1) := by decide +kernel
theorem d_Mo_smallDeterminant_100 : decode prog_7_method_15_code 100 = .ok (.istore 4, 2) := by decide +kernel
theorem d_Mo_smallDeterminant_102 : decode prog_7_method_15_code 102 = .ok (.iload 4, 2) := by decide +kernel
theorem d_Mo_smallDeterminant_104 : decode prog_7_method_15_code 104 = .ok (.iload_n 1, 1) := by decide +kernel
theorem d_Mo_smallDeterminant_105 : decode prog_7_method_15_code 105 = .ok (.if_icmp .ge 61, 3) := by decide +kernel
theorem d_Mo_smallDeterminant_108 : decode prog_7_method_15_code 108 = .ok (.aload_n 0, 1) := by decide +kernel
theorem d_Mo_smallDeterminant_109 : decode prog_7_method_15_code 109 = .ok (.getfield 137, 3) := by decide +kernel
theorem d_Mo_smallDeterminant_112 : decode prog_7_method_15_code 112 = .ok (.bipush 6, 2) := by decide +kernel
theorem d_Mo_smallDeterminant_114 : decode prog_7_method_15_code 114 = .ok (.iload_n 3, 1) := by decide +kernel
theorem d_Mo_smallDeterminant_115 : decode prog_7_method_15_code 115 = .ok (.imul, 1) := by decide +kernel
theorem d_Mo_smallDeterminant_116 : decode prog_7_method_15_code 116 = .ok (.iload 4, 2) := by decide +kernel
theorem d_Mo_smallDeterminant_118 : decode prog_7_method_15_code 118 = .ok (.iadd, 1) := by decide +kernel
theorem d_Mo_smallDeterminant_119 : decode prog_7_method_15_code 119 = .ok (.iaload, 1) := by decide +kernel
theorem d_Mo_smallDeterminant_120 : decode prog_7_method_15_code 120 = .ok (.istore 5, 2) := by decide +kernel
theorem d_Mo_smallDeterminant_122 : decode prog_7_method_15_code 122 = .ok (.aload_n 0, 1) := by decide +kernel
theorem d_Mo_smallDeterminant_123 : decode prog_7_method_15_code 123 = .ok (.getfield 137, 3) := by decide +kernel
theorem d_Mo_smallDeterminant_126 : decode prog_7_method_15_code 126 = .ok (.bipush 6, 2) := by decide +kernel
theorem d_Mo_smallDeterminant_128 : decode prog_7_method_15_code 128 = .ok (.iload_n 3, 1) := by decide +kernel
theorem d_Mo_smallDeterminant_129 : decode prog_7_method_15_code 129 = .ok (.imul, 1) := by decide +kernel
theorem d_Mo_smallDeterminant_130 : decode prog_7_method_15_code 130 = .ok (.iload 4, 2) := by decide +kernel
theorem d_Mo_smallDeterminant_132 : decode prog_7_method_15_code 132 = .ok (.iadd, 1) := by decide +kernel
theorem d_Mo_smallDeterminant_133 : decode prog_7_method_15_code 133 = .ok (.aload_n 0, 1) := by decide +kernel
theorem d_Mo_smallDeterminant_134 : decode prog_7_method_15_code 134 = .ok (.getfield 137, 3) := by decide +kernel
theorem d_Mo_smallDeterminant_137 : decode prog_7_method_15_code 137 = .ok (.bipush 6, 2) := by decide +kernel
theorem d_Mo_smallDeterminant_139 : decode prog_7_method_15_code 139 = .ok (.iload_n 2, 1) := by decide +kernel
theorem d_Mo_smallDeterminant_140 : decode prog_7_method_15_code 140 = .ok (.imul, 1) := by decide +kernel
theorem d_Mo_smallDeterminant_141 : decode prog_7_method_15_code 141 = .ok (.iload 4, 2) := by decide +kernel
theorem d_Mo_smallDeterminant_143 : decode prog_7_method_15_code 143 = .ok (.iadd, 1) := by decide +kernel
theorem d_Mo_smallDeterminant_144 : decode prog_7_method_15_code 144 = .ok (.iaload, 1) := by decide +kernel
theorem d_Mo_smallDeterminant_145 : decode prog_7_method_15_code 145 = .ok (.iastore, 1) := by decide +kernel
theorem d_Mo_smallDeterminant_146 : decode prog_7_method_15_code 146 = .ok (.aload_n 0, 1) := by decide +kernel
theorem d_Mo_smallDeterminant_147 : decode prog_7_method_15_code 147 = .ok (.getfield 137, 3) := by decide +kernel
theorem d_Mo_smallDeterminant_150 : decode prog_7_method_15_code 150 = .ok (.bipush 6, 2) := by decide +kernel
theorem d_Mo_smallDeterminant_152 : decode prog_7_method_15_code 152 = .ok (.iload_n 2, 1) := by decide +kernel
theorem d_Mo_smallDeterminant_153 : decode prog_7_method_15_code 153 = .ok (.imul, 1) := by decide +kernel
theorem d_Mo_smallDeterminant_154 : decode prog_7_method_15_code 154 = .ok (.iload 4, 2) := by decide +kernel
theorem d_Mo_smallDeterminant_156 : decode prog_7_method_15_code 156 = .ok (.iadd, 1) := by decide +kernel
theorem d_Mo_smallDeterminant_157 : decode prog_7_method_15_code 157 = .ok (.iload 5, 2) := by decide +kernel
theorem d_Mo_smallDeterminant_159 : decode prog_7_method_15_code 159 = .ok (.iastore, 1) := by decide +kernel
theorem d_Mo_smallDeterminant_160 : decode prog_7_method_15_code 160 = .ok (.iinc 4 1, 3) := by decide +kernel
theorem d_Mo_smallDeterminant_163 : decode prog_7_method_15_code 163 = .ok (.goto (-61), 3) := by decide +kernel
theorem d_Mo_smallDeterminant_166 : decode prog_7_method_15_code 166 = .ok (.aload_n 0, 1) := by decide +kernel
theorem d_Mo_smallDeterminant_167 : decode prog_7_method_15_code 167 = .ok (.aload_n 0, 1) := by decide +kernel
theorem d_Mo_smallDeterminant_168 : decode prog_7_method_15_code 168 = .ok (.getfield 137, 3) := by decide +kernel
theorem d_Mo_smallDeterminant_171 : decode prog_7_method_15_code 171 = .ok (.bipush 6, 2) := by decide +kernel
theorem d_Mo_smallDeterminant_173 : decode prog_7_method_15_code 173 = .ok (.iload_n 2, 1) := by decide +kernel
theorem d_Mo_smallDeterminant_174 : decode prog_7_method_15_code 174 = .ok (.imul, 1) := by decide +kernel
theorem d_Mo_smallDeterminant_175 : decode prog_7_method_15_code 175 = .ok (.iload_n 2, 1) := by decide +kernel
theorem d_Mo_smallDeterminant_176 : decode prog_7_method_15_code 176 = .ok (.iadd, 1) := by decide +kernel
theorem d_Mo_smallDeterminant_177 : decode prog_7_method_15_code 177 = .ok (.iaload, 1) := by decide +kernel
theorem d_Mo_smallDeterminant_178 : decode prog_7_method_15_code 178 = .ok (.invokevirtual 61, 3) := by decide +kernel
theorem d_Mo_smallDeterminant_181 : decode prog_7_method_15_code 181 = .ok (.istore 4, 2) := by decide +kernel
theorem d_Mo_smallDeterminant_183 : decode prog_7_method_15_code 183 = .ok (.iload_n 2, 1) := by decide +kernel
theorem d_Mo_smallDeterminant_184 : decode prog_7_method_15_code 184 = .ok (.iconst 1, 1) := by decide +kernel
theorem d_Mo_smallDeterminant_185 : decode prog_7_method_15_code 185 = .ok (.iadd, 1) := by decide +kernel
theorem d_Mo_smallDeterminant_186 : decode prog_7_method_15_code 186 = .ok (.istore 5, 2) := by decide +kernel
theorem d_Mo_smallDeterminant_188 : decode prog_7_method_15_code 188 = .ok (.iload 5, 2) := by decide +kernel
theorem d_Mo_smallDeterminant_190 : decode prog_7_method_15_code 190 = .ok (.iload_n 1, 1) := by decide +kernel
theorem d_Mo_smallDeterminant_191 : decode prog_7_method_15_code 191 = .ok (.if_icmp .ge 98, 3) := by decide +kernel
theorem d_Mo_smallDeterminant_194 : decode prog_7_method_15_code 194 = .ok (.aload_n 0, 1) := by decide +kernel
theorem d_Mo_smallDeterminant_195 : decode prog_7_method_15_code 195 = .ok (.getfield 137, 3) := by decide +kernel
theorem d_Mo_smallDeterminant_198 : decode prog_7_method_15_code 198 = .ok (.bipush 6, 2) := by decide +kernel
theorem d_Mo_smallDeterminant_200 : decode prog_7_method_15_code 200 = .ok (.iload 5, 2) := by decide +kernel
theorem d_Mo_smallDeterminant_202 : decode prog_7_method_15_code 202 = .ok (.imul, 1) := by decide +kernel
theorem d_Mo_smallDeterminant_203 : decode prog_7_method_15_code 203 = .ok (.iload_n 2, 1) := by decide +kernel
theorem d_Mo_smallDeterminant_204 : decode prog_7_method_15_code 204 = .ok (.iadd, 1) := by decide +kernel
theorem d_Mo_smallDeterminant_205 : decode prog_7_method_15_code 205 = .ok (.iaload, 1) := by decide +kernel
theorem d_Mo_smallDeterminant_206 : decode prog_7_method_15_code 206 = .ok (.iload 4, 2) := by decide +kernel
theorem d_Mo_smallDeterminant_208 : decode prog_7_method_15_code 208 = .ok (.imul, 1) := by decide +kernel
theorem d_Mo_smallDeterminant_209 : decode prog_7_method_15_code 209 = .ok (.aload_n 0, 1) := by decide +kernel
theorem d_Mo_smallDeterminant_210 : decode prog_7_method_15_code 210 = .ok (.getfield 38, 3) := by decide +kernel
theorem d_Mo_smallDeterminant_213 : decode prog_7_method_15_code 213 = .ok (.irem, 1) := by decide +kernel
theorem d_Mo_smallDeterminant_214 : decode prog_7_method_15_code 214 = .ok (.istore 6, 2) := by decide +kernel
theorem d_Mo_smallDeterminant_216 : decode prog_7_method_15_code 216 = .ok (.iload_n 2, 1) := by decide +kernel
theorem d_Mo_smallDeterminant_217 : decode prog_7_method_15_code 217 = .ok (.istore 7, 2) := by decide +kernel
theorem d_Mo_smallDeterminant_219 : decode prog_7_method_15_code 219 = .ok (.iload 7, 2) := by decide +kernel
theorem d_Mo_smallDeterminant_221 : decode prog_7_method_15_code 221 = .ok (.iload_n 1, 1) := by decide +kernel
theorem d_Mo_smallDeterminant_222 : decode prog_7_method_15_code 222 = .ok (.if_icmp .ge 61, 3) := by decide +kernel
theorem d_Mo_smallDeterminant_225 : decode prog_7_method_15_code 225 = .ok (.aload_n 0, 1) := by decide +kernel
theorem d_Mo_smallDeterminant_226 : decode prog_7_method_15_code 226 = .ok (.getfield 137, 3) := by decide +kernel
theorem d_Mo_smallDeterminant_229 : decode prog_7_method_15_code 229 = .ok (.bipush 6, 2) := by decide +kernel
theorem d_Mo_smallDeterminant_231 : decode prog_7_method_15_code 231 = .ok (.iload 5, 2) := by decide +kernel
theorem d_Mo_smallDeterminant_233 : decode prog_7_method_15_code 233 = .ok (.imul, 1) := by decide +kernel
theorem d_Mo_smallDeterminant_234 : decode prog_7_method_15_code 234 = .ok (.iload 7, 2) := by decide +kernel
theorem d_Mo_smallDeterminant_236 : decode prog_7_method_15_code 236 = .ok (.iadd, 1) := by decide +kernel
theorem d_Mo_smallDeterminant_237 : decode prog_7_method_15_code 237 = .ok (.aload_n 0, 1) := by decide +kernel
theorem d_Mo_smallDeterminant_238 : decode prog_7_method_15_code 238 = .ok (.getfield 137, 3) := by decide +kernel
theorem d_Mo_smallDeterminant_241 : decode prog_7_method_15_code 241 = .ok (.bipush 6, 2) := by decide +kernel
theorem d_Mo_smallDeterminant_243 : decode prog_7_method_15_code 243 = .ok (.iload 5, 2) := by decide +kernel
theorem d_Mo_smallDeterminant_245 : decode prog_7_method_15_code 245 = .ok (.imul, 1) := by decide +kernel
theorem d_Mo_smallDeterminant_246 : decode prog_7_method_15_code 246 = .ok (.iload 7, 2) := by decide +kernel
theorem d_Mo_smallDeterminant_248 : decode prog_7_method_15_code 248 = .ok (.iadd, 1) := by decide +kernel
theorem d_Mo_smallDeterminant_249 : decode prog_7_method_15_code 249 = .ok (.iaload, 1) := by decide +kernel
theorem d_Mo_smallDeterminant_250 : decode prog_7_method_15_code 250 = .ok (.aload_n 0, 1) := by decide +kernel
theorem d_Mo_smallDeterminant_251 : decode prog_7_method_15_code 251 = .ok (.getfield 38, 3) := by decide +kernel
theorem d_Mo_smallDeterminant_254 : decode prog_7_method_15_code 254 = .ok (.iload 6, 2) := by decide +kernel
theorem d_Mo_smallDeterminant_256 : decode prog_7_method_15_code 256 = .ok (.isub, 1) := by decide +kernel
theorem d_Mo_smallDeterminant_257 : decode prog_7_method_15_code 257 = .ok (.aload_n 0, 1) := by decide +kernel
theorem d_Mo_smallDeterminant_258 : decode prog_7_method_15_code 258 = .ok (.getfield 137, 3) := by decide +kernel
theorem d_Mo_smallDeterminant_261 : decode prog_7_method_15_code 261 = .ok (.bipush 6, 2) := by decide +kernel
theorem d_Mo_smallDeterminant_263 : decode prog_7_method_15_code 263 = .ok (.iload_n 2, 1) := by decide +kernel
theorem d_Mo_smallDeterminant_264 : decode prog_7_method_15_code 264 = .ok (.imul, 1) := by decide +kernel
theorem d_Mo_smallDeterminant_265 : decode prog_7_method_15_code 265 = .ok (.iload 7, 2) := by decide +kernel
theorem d_Mo_smallDeterminant_267 : decode prog_7_method_15_code 267 = .ok (.iadd, 1) := by decide +kernel
theorem d_Mo_smallDeterminant_268 : decode prog_7_method_15_code 268 = .ok (.iaload, 1) := by decide +kernel
theorem d_Mo_smallDeterminant_269 : decode prog_7_method_15_code 269 = .ok (.imul, 1) := by decide +kernel
theorem d_Mo_smallDeterminant_270 : decode prog_7_method_15_code 270 = .ok (.iadd, 1) := by decide +kernel
theorem d_Mo_smallDeterminant_271 : decode prog_7_method_15_code 271 = .ok (.aload_n 0, 1) := by decide +kernel
theorem d_Mo_smallDeterminant_272 : decode prog_7_method_15_code 272 = .ok (.getfield 38, 3) := by decide +kernel
theorem d_Mo_smallDeterminant_275 : decode prog_7_method_15_code 275 = .ok (.irem, 1) := by decide +kernel
theorem d_Mo_smallDeterminant_276 : decode prog_7_method_15_code 276 = .ok (.iastore, 1) := by decide +kernel
theorem d_Mo_smallDeterminant_277 : decode prog_7_method_15_code 277 = .ok (.iinc 7 1, 3) := by decide +kernel
theorem d_Mo_smallDeterminant_280 : decode prog_7_method_15_code 280 = .ok (.goto (-61), 3) := by decide +kernel
theorem d_Mo_smallDeterminant_283 : decode prog_7_method_15_code 283 = .ok (.iinc 5 1, 3) := by decide +kernel
theorem d_Mo_smallDeterminant_286 : decode prog_7_method_15_code 286 = .ok (.goto (-98), 3) := by decide +kernel
theorem d_Mo_smallDeterminant_289 : decode prog_7_method_15_code 289 = .ok (.iinc 2 1, 3) := by decide +kernel
theorem d_Mo_smallDeterminant_292 : decode prog_7_method_15_code 292 = .ok (.goto (-232), 3) := by decide +kernel
theorem d_Mo_smallDeterminant_295 : decode prog_7_method_15_code 295 = .ok (.iconst 1, 1) := by decide +kernel
theorem d_Mo_smallDeterminant_296 : decode prog_7_method_15_code 296 = .ok (.ireturn, 1) := by decide +kernel
def f_R_smallDet (m_prime : Int32) (m_smallMinor_n : Nat) (m_smallMinor : Nat → Int32) (m_small_n : Nat) (m_small : Nat → Int32) (m_freeRows_n : Nat) (m_freeRows : Nat → Int32) (m_freeColumns_n : Nat) (m_freeColumns : Nat → Int32) (n0 : Int32) : Option (Int32 × (Nat → Int32)) :=
  ck_jn (fun (w_1 : Nat → Int32) => lo2 (fun k_60 (v2_2 : Int32) (w_3 : Nat → Int32) => ck_if (n0 ≤ v2_2) (some (1, w_3)) (ck_jn (fun (v3_5 : Int32) => ck_if (v3_5 = n0) (some (0, w_3)) (ck_jn (fun (w_7 : Nat → Int32) => ck_in ((6 * v2_2) + v2_2) m_smallMinor_n <| ck_b1 (f_R_inverse m_prime (w_7 ((6 * v2_2) + v2_2).toNatClampNeg)) <| fun r_9 => ck_nm (v2_2 + 1) <| fun x_11 => ck_jn (fun (w_12 : Nat → Int32) => ck_nm (v2_2 + 1) <| fun x_13 => k_60 x_13 w_12) <| fun k_289 => lo2 (fun k_188 (v5_14 : Int32) (w_15 : Nat → Int32) => ck_if (n0 ≤ v5_14) (k_289 w_15) (ck_in ((6 * v5_14) + v2_2) m_smallMinor_n <| ck_nz m_prime <| ck_nm (((w_15 ((6 * v5_14) + v2_2).toNatClampNeg) * r_9) - ((w_15 ((6 * v5_14) + v2_2).toNatClampNeg) * r_9) / m_prime * m_prime) <| fun x_19 => ck_jn (fun (w_20 : Nat → Int32) => ck_nm (v5_14 + 1) <| fun x_21 => k_188 x_21 w_20) <| fun k_283 => lo2 (fun k_219 (v7_22 : Int32) (w_23 : Nat → Int32) => ck_if (n0 ≤ v7_22) (k_283 w_23) (ck_in ((6 * v5_14) + v7_22) m_smallMinor_n <| ck_in ((6 * v2_2) + v7_22) m_smallMinor_n <| ck_nz m_prime <| ck_in ((6 * v5_14) + v7_22) m_smallMinor_n <| ck_nm (v7_22 + 1) <| fun x_29 => k_219 x_29 (upd w_23 ((6 * v5_14) + v7_22).toNatClampNeg (((w_23 ((6 * v5_14) + v7_22).toNatClampNeg) + ((m_prime - x_19) * (w_23 ((6 * v2_2) + v7_22).toNatClampNeg))) - ((w_23 ((6 * v5_14) + v7_22).toNatClampNeg) + ((m_prime - x_19) * (w_23 ((6 * v2_2) + v7_22).toNatClampNeg))) / m_prime * m_prime)))) ck_F v2_2 w_15)) ck_F x_11 w_7) <| fun k_166 => lo2 (fun k_102 (v4_30 : Int32) (w_31 : Nat → Int32) => ck_if (n0 ≤ v4_30) (k_166 w_31) (ck_in ((6 * v3_5) + v4_30) m_smallMinor_n <| ck_nm (w_31 ((6 * v3_5) + v4_30).toNatClampNeg) <| fun x_34 => ck_in ((6 * v2_2) + v4_30) m_smallMinor_n <| ck_in ((6 * v3_5) + v4_30) m_smallMinor_n <| ck_in ((6 * v2_2) + v4_30) m_smallMinor_n <| ck_nm (v4_30 + 1) <| fun x_38 => k_102 x_38 (upd (upd w_31 ((6 * v3_5) + v4_30).toNatClampNeg (w_31 ((6 * v2_2) + v4_30).toNatClampNeg)) ((6 * v2_2) + v4_30).toNatClampNeg x_34))) ck_F 0 w_3)) <| fun k_92 => lo1 (fun k_67 (v3_39 : Int32) => ck_if (n0 ≤ v3_39) (k_92 v3_39) (ck_in ((6 * v3_39) + v2_2) m_smallMinor_n <| ck_if ((w_3 ((6 * v3_39) + v2_2).toNatClampNeg) = 0) (ck_nm (v3_39 + 1) <| fun x_43 => k_67 x_43) (k_92 v3_39))) ck_F v2_2)) ck_F 0 w_1) <| fun k_58 => lo2 (fun k_2 (v2_44 : Int32) (w_45 : Nat → Int32) => ck_if (n0 ≤ v2_44) (k_58 w_45) (ck_jn (fun (w_47 : Nat → Int32) => ck_nm (v2_44 + 1) <| fun x_48 => k_2 x_48 w_47) <| fun k_52 => lo2 (fun k_9 (v3_49 : Int32) (w_50 : Nat → Int32) => ck_if (n0 ≤ v3_49) (k_52 w_50) (ck_in v2_44 m_freeRows_n <| ck_in v3_49 m_freeColumns_n <| ck_in ((12 * (m_freeRows v2_44.toNatClampNeg)) + (m_freeColumns v3_49.toNatClampNeg)) m_small_n <| ck_in ((6 * v2_44) + v3_49) m_smallMinor_n <| ck_nm (v3_49 + 1) <| fun x_56 => k_9 x_56 (upd w_50 ((6 * v2_44) + v3_49).toNatClampNeg (m_small ((12 * (m_freeRows v2_44.toNatClampNeg)) + (m_freeColumns v3_49.toNatClampNeg)).toNatClampNeg)))) ck_F 0 w_45)) ck_F 0 m_smallMinor
set_option maxHeartbeats 4000000 in
set_option maxRecDepth 100000 in
theorem c_R_smallDet (l : Launch) (dC : Nat → ClassId) (dI : Nat → Nat → Nat) (cI cJ cB cZ cT cN : ClassId) (sz : Nat) (h_m : Nat) (h_m_one : Nat) (h_m_two : Nat) (h_m_three : Nat) (h_m_four : Nat) (h_m_five : Nat) (h_m_six : Nat) (h_m_seven : Nat) (h_m_eight : Nat) (h_m_work : Nat) (h_m_small : Nat) (h_m_pivots : Nat) (h_m_freeRows : Nat) (h_m_freeColumns : Nat) (h_m_minor : Nat) (h_m_smallMinor : Nat) (h_m_fields : Nat) (h_m_rowCounts : Nat) (h_m_elements : Nat) (h_m_numbers : Nat) (h_m_known : Nat) (h_m_ranks : Nat) (h_m_rankOf : Nat) (h_m_signOf : Nat) (h_m_order : Nat) (h_m_sizes : Nat) (h_m_coefficients : Nat) (h_m_choices : Nat) (h_m_sorted : Nat) (m_rows : Int32) (m_columns : Int32) (m_prime : Int32) (m_smallMinor_n : Nat) (m_smallMinor : Nat → Int32) (m_small_n : Nat) (m_small : Nat → Int32) (m_freeRows_n : Nat) (m_freeRows : Nat → Int32) (m_freeColumns_n : Nat) (m_freeColumns : Nat → Int32) (n0 : Int32) (r : Int32 × (Nat → Int32)) (h : f_R_smallDet m_prime m_smallMinor_n m_smallMinor m_small_n m_small m_freeRows_n m_freeRows m_freeColumns_n m_freeColumns n0 = some r) : Met l y_Mo_smallDeterminant w_Mo_smallDeterminant ({ frames := 1, cells := 0, slots := 0, locals := 22 } : Room) (va_Pc [.ref h_m, .int n0] (fun U => U.heap.size = sz ∧ va_P (dC, dI) cl_all [(h_m, .inr (6, [.ref h_m_one, .ref h_m_two, .ref h_m_three, .ref h_m_four, .ref h_m_five, .ref h_m_six, .ref h_m_seven, .ref h_m_eight, .ref h_m_work, .ref h_m_small, .int m_rows, .int m_columns, .int m_prime, .ref h_m_pivots, .ref h_m_freeRows, .ref h_m_freeColumns, .ref h_m_minor, .ref h_m_smallMinor, .ref h_m_fields, .ref h_m_rowCounts, .ref h_m_elements, .ref h_m_numbers, .ref h_m_known, .ref h_m_ranks, .ref h_m_rankOf, .ref h_m_signOf, .ref h_m_order, .ref h_m_sizes, .ref h_m_coefficients, .ref h_m_choices, .ref h_m_sorted])), (h_m_smallMinor, .inl (cI, m_smallMinor_n, .inl m_smallMinor)), (h_m_small, .inl (cI, m_small_n, .inl m_small)), (h_m_freeRows, .inl (cI, m_freeRows_n, .inl m_freeRows)), (h_m_freeColumns, .inl (cI, m_freeColumns_n, .inl m_freeColumns))] U.heap ∧ va_K (dC, dI) cl_all [(cI, .int), (cJ, .long), (cB, .byte), (cZ, .boolean), (cT, .object "BasisWalk$Table"), (cN, .object "BasisWalkModel$Num")] U ∧ NW U ∧ va_D (fun _ => True) [(h_m, .inr (6, [.ref h_m_one, .ref h_m_two, .ref h_m_three, .ref h_m_four, .ref h_m_five, .ref h_m_six, .ref h_m_seven, .ref h_m_eight, .ref h_m_work, .ref h_m_small, .int m_rows, .int m_columns, .int m_prime, .ref h_m_pivots, .ref h_m_freeRows, .ref h_m_freeColumns, .ref h_m_minor, .ref h_m_smallMinor, .ref h_m_fields, .ref h_m_rowCounts, .ref h_m_elements, .ref h_m_numbers, .ref h_m_known, .ref h_m_ranks, .ref h_m_rankOf, .ref h_m_signOf, .ref h_m_order, .ref h_m_sizes, .ref h_m_coefficients, .ref h_m_choices, .ref h_m_sorted])), (h_m_smallMinor, .inl (cI, m_smallMinor_n, .inl m_smallMinor)), (h_m_small, .inl (cI, m_small_n, .inl m_small)), (h_m_freeRows, .inl (cI, m_freeRows_n, .inl m_freeRows)), (h_m_freeColumns, .inl (cI, m_freeColumns_n, .inl m_freeColumns))])) (va_Qi (fun (v : Int32) (u : (Nat → Int32)) => (v, u) = r) (fun (u : (Nat → Int32)) (t : State) => va_P (dC, dI) cl_all [(h_m, .inr (6, [.ref h_m_one, .ref h_m_two, .ref h_m_three, .ref h_m_four, .ref h_m_five, .ref h_m_six, .ref h_m_seven, .ref h_m_eight, .ref h_m_work, .ref h_m_small, .int m_rows, .int m_columns, .int m_prime, .ref h_m_pivots, .ref h_m_freeRows, .ref h_m_freeColumns, .ref h_m_minor, .ref h_m_smallMinor, .ref h_m_fields, .ref h_m_rowCounts, .ref h_m_elements, .ref h_m_numbers, .ref h_m_known, .ref h_m_ranks, .ref h_m_rankOf, .ref h_m_signOf, .ref h_m_order, .ref h_m_sizes, .ref h_m_coefficients, .ref h_m_choices, .ref h_m_sorted])), (h_m_smallMinor, .inl (cI, m_smallMinor_n, .inl u)), (h_m_small, .inl (cI, m_small_n, .inl m_small)), (h_m_freeRows, .inl (cI, m_freeRows_n, .inl m_freeRows)), (h_m_freeColumns, .inl (cI, m_freeColumns_n, .inl m_freeColumns))] t.heap ∧ va_K (dC, dI) cl_all [(cI, .int), (cJ, .long), (cB, .byte), (cZ, .boolean), (cT, .object "BasisWalk$Table"), (cN, .object "BasisWalkModel$Num")] t ∧ va_D (va_A [(h_m, .inr (6, [.ref h_m_one, .ref h_m_two, .ref h_m_three, .ref h_m_four, .ref h_m_five, .ref h_m_six, .ref h_m_seven, .ref h_m_eight, .ref h_m_work, .ref h_m_small, .int m_rows, .int m_columns, .int m_prime, .ref h_m_pivots, .ref h_m_freeRows, .ref h_m_freeColumns, .ref h_m_minor, .ref h_m_smallMinor, .ref h_m_fields, .ref h_m_rowCounts, .ref h_m_elements, .ref h_m_numbers, .ref h_m_known, .ref h_m_ranks, .ref h_m_rankOf, .ref h_m_signOf, .ref h_m_order, .ref h_m_sizes, .ref h_m_coefficients, .ref h_m_choices, .ref h_m_sorted])), (h_m_smallMinor, .inl (cI, m_smallMinor_n, .inl m_smallMinor)), (h_m_small, .inl (cI, m_small_n, .inl m_small)), (h_m_freeRows, .inl (cI, m_freeRows_n, .inl m_freeRows)), (h_m_freeColumns, .inl (cI, m_freeColumns_n, .inl m_freeColumns))] sz) [(h_m, .inr (6, [.ref h_m_one, .ref h_m_two, .ref h_m_three, .ref h_m_four, .ref h_m_five, .ref h_m_six, .ref h_m_seven, .ref h_m_eight, .ref h_m_work, .ref h_m_small, .int m_rows, .int m_columns, .int m_prime, .ref h_m_pivots, .ref h_m_freeRows, .ref h_m_freeColumns, .ref h_m_minor, .ref h_m_smallMinor, .ref h_m_fields, .ref h_m_rowCounts, .ref h_m_elements, .ref h_m_numbers, .ref h_m_known, .ref h_m_ranks, .ref h_m_rankOf, .ref h_m_signOf, .ref h_m_order, .ref h_m_sizes, .ref h_m_coefficients, .ref h_m_choices, .ref h_m_sorted])), (h_m_smallMinor, .inl (cI, m_smallMinor_n, .inl u)), (h_m_small, .inl (cI, m_small_n, .inl m_small)), (h_m_freeRows, .inl (cI, m_freeRows_n, .inl m_freeRows)), (h_m_freeColumns, .inl (cI, m_freeColumns_n, .inl m_freeColumns))]) (va_A [(h_m, .inr (6, [.ref h_m_one, .ref h_m_two, .ref h_m_three, .ref h_m_four, .ref h_m_five, .ref h_m_six, .ref h_m_seven, .ref h_m_eight, .ref h_m_work, .ref h_m_small, .int m_rows, .int m_columns, .int m_prime, .ref h_m_pivots, .ref h_m_freeRows, .ref h_m_freeColumns, .ref h_m_minor, .ref h_m_smallMinor, .ref h_m_fields, .ref h_m_rowCounts, .ref h_m_elements, .ref h_m_numbers, .ref h_m_known, .ref h_m_ranks, .ref h_m_rankOf, .ref h_m_signOf, .ref h_m_order, .ref h_m_sizes, .ref h_m_coefficients, .ref h_m_choices, .ref h_m_sorted])), (h_m_smallMinor, .inl (cI, m_smallMinor_n, .inl m_smallMinor)), (h_m_small, .inl (cI, m_small_n, .inl m_small)), (h_m_freeRows, .inl (cI, m_freeRows_n, .inl m_freeRows)), (h_m_freeColumns, .inl (cI, m_freeColumns_n, .inl m_freeColumns))] sz)) 0 0 (va_A [(h_m, .inr (6, [.ref h_m_one, .ref h_m_two, .ref h_m_three, .ref h_m_four, .ref h_m_five, .ref h_m_six, .ref h_m_seven, .ref h_m_eight, .ref h_m_work, .ref h_m_small, .int m_rows, .int m_columns, .int m_prime, .ref h_m_pivots, .ref h_m_freeRows, .ref h_m_freeColumns, .ref h_m_minor, .ref h_m_smallMinor, .ref h_m_fields, .ref h_m_rowCounts, .ref h_m_elements, .ref h_m_numbers, .ref h_m_known, .ref h_m_ranks, .ref h_m_rankOf, .ref h_m_signOf, .ref h_m_order, .ref h_m_sizes, .ref h_m_coefficients, .ref h_m_choices, .ref h_m_sorted])), (h_m_smallMinor, .inl (cI, m_smallMinor_n, .inl m_smallMinor)), (h_m_small, .inl (cI, m_small_n, .inl m_small)), (h_m_freeRows, .inl (cI, m_freeRows_n, .inl m_freeRows)), (h_m_freeColumns, .inl (cI, m_freeColumns_n, .inl m_freeColumns))] sz) := by
  refine Met.ofW (cc := prog_7_method_15_code) (maxL := 8) (ret := (Option.some Jvm.ClassFile.FieldType.int)) (by decide) rfl ?_
  intro p e s m args below meth c s₁ B hml hv
  obtain ⟨hAR, hsz, hP, hK, hN, hD0⟩ := hv
  have hx := B.exec
  have hb := B.bytes
  have hr := B.returns
  have hts := atoms_spec (ws := w_Mo_smallDeterminant) B.pre
  have hown : s.vm.findClass "BasisWalkModel" = some m.cls := findClass_of_methodNamed B.named
  have hlocks := B.notSynchronized
  clear B
  subst hsz
  have hD := hD0.self (sz := s.heap.size)
  generalize hAe : va_A [(h_m, .inr (6, [.ref h_m_one, .ref h_m_two, .ref h_m_three, .ref h_m_four, .ref h_m_five, .ref h_m_six, .ref h_m_seven, .ref h_m_eight, .ref h_m_work, .ref h_m_small, .int m_rows, .int m_columns, .int m_prime, .ref h_m_pivots, .ref h_m_freeRows, .ref h_m_freeColumns, .ref h_m_minor, .ref h_m_smallMinor, .ref h_m_fields, .ref h_m_rowCounts, .ref h_m_elements, .ref h_m_numbers, .ref h_m_known, .ref h_m_ranks, .ref h_m_rankOf, .ref h_m_signOf, .ref h_m_order, .ref h_m_sizes, .ref h_m_coefficients, .ref h_m_choices, .ref h_m_sorted])), (h_m_smallMinor, .inl (cI, m_smallMinor_n, .inl m_smallMinor)), (h_m_small, .inl (cI, m_small_n, .inl m_small)), (h_m_freeRows, .inl (cI, m_freeRows_n, .inl m_freeRows)), (h_m_freeColumns, .inl (cI, m_freeColumns_n, .inl m_freeColumns))] s.heap.size = A at hD ⊢
  have hA : ∀ q : Nat, s.heap.size ≤ q → A q := fun q h => by rw [← hAe]; exact Or.inr h
  clear hAe hD0
  have hS : va_S A s.heap s.heap [] := va_S.rf
  have hl := lv_entry ([.ref h_m, .int n0]) (n := 8) (Nat.le_of_ble_eq_true rfl)
  subst hAR
  rw [lg_entry_eq]
  generalize (lg_sl ([.ref h_m, .int n0]) ++ List.replicate (8 - (lg_sl ([.ref h_m, .int n0])).length) Slot.unset).toArray = ls at hl ⊢
  have hl : lv_has ls 8 [(0, .ref h_m), (1, .int n0)] := hl
  change W p l e ({ frames := 1, cells := 0, slots := 0, locals := 22 } : Room) s m _ below meth c s.heap [] 0 0 _ _
  generalize hARe : ([.ref h_m, .int n0] : List Value).toArray = AR at hts ⊢
  clear hARe
  generalize hQ : MQ below _ AR s 0 0 A = QQ
  have fl0 := hts _ (List.mem_cons_of_mem _ tw_372)
  have iw1 := (fun w hw => List.mem_cons_of_mem _ (in_Mo w hw) : ∀ w ∈ u_ws "BasisWalkModel" T_Mo 31, w ∈ w_Mo_smallDeterminant)
  have fl2 := hts _ (List.mem_cons_of_mem _ tw_367)
  have fl3 := hts _ (List.mem_cons_of_mem _ tw_364)
  have fl4 := hts _ (List.mem_cons_of_mem _ tw_369)
  have fl5 := hts _ (List.mem_cons_of_mem _ tw_370)
  obtain ⟨H, hHe⟩ : ∃ H : Heap, H = s.heap := ⟨_, rfl⟩
  rw [← hHe] at hP ⊢
  replace hS : va_S A s.heap H [] := by rw [hHe]; exact va_S.rf
  clear hHe
  unfold f_R_smallDet at h
  refine lv_iconst (v := 0) hx hb d_Mo_smallDeterminant_0 (by decide) ?_
  refine lv_istore_n (lv' := [(2, .int 0), (0, .ref h_m), (1, .int n0)]) hx hb d_Mo_smallDeterminant_1 rfl hl (by decide) rfl (fun ls hl => ?_)
  refine ck_jn_W h (fun k' => ∀ (w_1 : Nat → Int32), k' w_1 = some r → ∀ (H : Heap) (locs : List Loc), va_P (dC, dI) cl_all [(h_m, .inr (6, [.ref h_m_one, .ref h_m_two, .ref h_m_three, .ref h_m_four, .ref h_m_five, .ref h_m_six, .ref h_m_seven, .ref h_m_eight, .ref h_m_work, .ref h_m_small, .int m_rows, .int m_columns, .int m_prime, .ref h_m_pivots, .ref h_m_freeRows, .ref h_m_freeColumns, .ref h_m_minor, .ref h_m_smallMinor, .ref h_m_fields, .ref h_m_rowCounts, .ref h_m_elements, .ref h_m_numbers, .ref h_m_known, .ref h_m_ranks, .ref h_m_rankOf, .ref h_m_signOf, .ref h_m_order, .ref h_m_sizes, .ref h_m_coefficients, .ref h_m_choices, .ref h_m_sorted])), (h_m_smallMinor, .inl (cI, m_smallMinor_n, .inl w_1)), (h_m_small, .inl (cI, m_small_n, .inl m_small)), (h_m_freeRows, .inl (cI, m_freeRows_n, .inl m_freeRows)), (h_m_freeColumns, .inl (cI, m_freeColumns_n, .inl m_freeColumns))] H → va_D A [(h_m, .inr (6, [.ref h_m_one, .ref h_m_two, .ref h_m_three, .ref h_m_four, .ref h_m_five, .ref h_m_six, .ref h_m_seven, .ref h_m_eight, .ref h_m_work, .ref h_m_small, .int m_rows, .int m_columns, .int m_prime, .ref h_m_pivots, .ref h_m_freeRows, .ref h_m_freeColumns, .ref h_m_minor, .ref h_m_smallMinor, .ref h_m_fields, .ref h_m_rowCounts, .ref h_m_elements, .ref h_m_numbers, .ref h_m_known, .ref h_m_ranks, .ref h_m_rankOf, .ref h_m_signOf, .ref h_m_order, .ref h_m_sizes, .ref h_m_coefficients, .ref h_m_choices, .ref h_m_sorted])), (h_m_smallMinor, .inl (cI, m_smallMinor_n, .inl w_1)), (h_m_small, .inl (cI, m_small_n, .inl m_small)), (h_m_freeRows, .inl (cI, m_freeRows_n, .inl m_freeRows)), (h_m_freeColumns, .inl (cI, m_freeColumns_n, .inl m_freeColumns))] → va_S A s.heap H locs → ∀ ls : Array Slot, lv_has ls 8 [(0, .ref h_m), (1, .int n0)] → W p l e ({ frames := 1, cells := 0, slots := 0, locals := 22 } : Room) s m AR below meth c H locs 0 0 QQ (F0 m 58 ls [])) ?_ ?_
  · intro w_1 h H locs hP hD hS ls hl
    refine lv_iconst (v := 0) hx hb d_Mo_smallDeterminant_58 (by decide) ?_
    refine lv_istore_n (lv' := [(2, .int 0), (0, .ref h_m), (1, .int n0)]) hx hb d_Mo_smallDeterminant_59 rfl hl (by decide) rfl (fun ls hl => ?_)
    refine lo2_W (r := r) (fun (v2_2 : Int32) (w_3 : Nat → Int32) => ∀ (H : Heap) (locs : List Loc), va_P (dC, dI) cl_all [(h_m, .inr (6, [.ref h_m_one, .ref h_m_two, .ref h_m_three, .ref h_m_four, .ref h_m_five, .ref h_m_six, .ref h_m_seven, .ref h_m_eight, .ref h_m_work, .ref h_m_small, .int m_rows, .int m_columns, .int m_prime, .ref h_m_pivots, .ref h_m_freeRows, .ref h_m_freeColumns, .ref h_m_minor, .ref h_m_smallMinor, .ref h_m_fields, .ref h_m_rowCounts, .ref h_m_elements, .ref h_m_numbers, .ref h_m_known, .ref h_m_ranks, .ref h_m_rankOf, .ref h_m_signOf, .ref h_m_order, .ref h_m_sizes, .ref h_m_coefficients, .ref h_m_choices, .ref h_m_sorted])), (h_m_smallMinor, .inl (cI, m_smallMinor_n, .inl w_3)), (h_m_small, .inl (cI, m_small_n, .inl m_small)), (h_m_freeRows, .inl (cI, m_freeRows_n, .inl m_freeRows)), (h_m_freeColumns, .inl (cI, m_freeColumns_n, .inl m_freeColumns))] H → va_D A [(h_m, .inr (6, [.ref h_m_one, .ref h_m_two, .ref h_m_three, .ref h_m_four, .ref h_m_five, .ref h_m_six, .ref h_m_seven, .ref h_m_eight, .ref h_m_work, .ref h_m_small, .int m_rows, .int m_columns, .int m_prime, .ref h_m_pivots, .ref h_m_freeRows, .ref h_m_freeColumns, .ref h_m_minor, .ref h_m_smallMinor, .ref h_m_fields, .ref h_m_rowCounts, .ref h_m_elements, .ref h_m_numbers, .ref h_m_known, .ref h_m_ranks, .ref h_m_rankOf, .ref h_m_signOf, .ref h_m_order, .ref h_m_sizes, .ref h_m_coefficients, .ref h_m_choices, .ref h_m_sorted])), (h_m_smallMinor, .inl (cI, m_smallMinor_n, .inl w_3)), (h_m_small, .inl (cI, m_small_n, .inl m_small)), (h_m_freeRows, .inl (cI, m_freeRows_n, .inl m_freeRows)), (h_m_freeColumns, .inl (cI, m_freeColumns_n, .inl m_freeColumns))] → va_S A s.heap H locs → ∀ ls : Array Slot, lv_has ls 8 [(0, .ref h_m), (1, .int n0), (2, .int v2_2)] → W p l e ({ frames := 1, cells := 0, slots := 0, locals := 22 } : Room) s m AR below meth c H locs 0 0 QQ (F0 m 60 ls [])) ?_ _ _ _ h _ _ hP hD hS _ (lv_sub hl [1, 2, 0] rfl)
    intro k_60 v2_2 w_3 J_60 h H locs hP hD hS ls hl
    refine lv_iload_n hx hb d_Mo_smallDeterminant_60 rfl (lv_at hl 2 rfl) ?_
    refine lv_iload_n hx hb d_Mo_smallDeterminant_61 rfl (lv_at hl 1 rfl) ?_
    refine lv_icmp_ge (tgt := 295) hx hb d_Mo_smallDeterminant_62 (by decide) (fun c_4 => ?_) (fun c_4 => ?_)
    · replace h := ck_if_t h c_4
      refine lv_iconst (v := 1) hx hb d_Mo_smallDeterminant_295 (by decide) ?_
      obtain rfl := Option.some.inj h
      subst hQ
      exact W.iret (v := 1) hx hb hr (fun t ht hW => ⟨⟨1, w_3, rfl, rfl, by rw [ht]; exact hP, va_K.moved hW.alike hK, hD⟩, hS.F ht⟩) hS.2.2 d_Mo_smallDeterminant_296
    · replace h := ck_if_f h c_4
      refine lv_iload_n hx hb d_Mo_smallDeterminant_65 rfl (lv_at hl 2 rfl) ?_
      refine lv_istore_n (lv' := [(3, .int v2_2), (0, .ref h_m), (1, .int n0), (2, .int v2_2)]) hx hb d_Mo_smallDeterminant_66 rfl hl (by decide) rfl (fun ls hl => ?_)
      refine ck_jn_W h (fun k' => ∀ (v3_5 : Int32), k' v3_5 = some r → ∀ (H : Heap) (locs : List Loc), va_P (dC, dI) cl_all [(h_m, .inr (6, [.ref h_m_one, .ref h_m_two, .ref h_m_three, .ref h_m_four, .ref h_m_five, .ref h_m_six, .ref h_m_seven, .ref h_m_eight, .ref h_m_work, .ref h_m_small, .int m_rows, .int m_columns, .int m_prime, .ref h_m_pivots, .ref h_m_freeRows, .ref h_m_freeColumns, .ref h_m_minor, .ref h_m_smallMinor, .ref h_m_fields, .ref h_m_rowCounts, .ref h_m_elements, .ref h_m_numbers, .ref h_m_known, .ref h_m_ranks, .ref h_m_rankOf, .ref h_m_signOf, .ref h_m_order, .ref h_m_sizes, .ref h_m_coefficients, .ref h_m_choices, .ref h_m_sorted])), (h_m_smallMinor, .inl (cI, m_smallMinor_n, .inl w_3)), (h_m_small, .inl (cI, m_small_n, .inl m_small)), (h_m_freeRows, .inl (cI, m_freeRows_n, .inl m_freeRows)), (h_m_freeColumns, .inl (cI, m_freeColumns_n, .inl m_freeColumns))] H → va_D A [(h_m, .inr (6, [.ref h_m_one, .ref h_m_two, .ref h_m_three, .ref h_m_four, .ref h_m_five, .ref h_m_six, .ref h_m_seven, .ref h_m_eight, .ref h_m_work, .ref h_m_small, .int m_rows, .int m_columns, .int m_prime, .ref h_m_pivots, .ref h_m_freeRows, .ref h_m_freeColumns, .ref h_m_minor, .ref h_m_smallMinor, .ref h_m_fields, .ref h_m_rowCounts, .ref h_m_elements, .ref h_m_numbers, .ref h_m_known, .ref h_m_ranks, .ref h_m_rankOf, .ref h_m_signOf, .ref h_m_order, .ref h_m_sizes, .ref h_m_coefficients, .ref h_m_choices, .ref h_m_sorted])), (h_m_smallMinor, .inl (cI, m_smallMinor_n, .inl w_3)), (h_m_small, .inl (cI, m_small_n, .inl m_small)), (h_m_freeRows, .inl (cI, m_freeRows_n, .inl m_freeRows)), (h_m_freeColumns, .inl (cI, m_freeColumns_n, .inl m_freeColumns))] → va_S A s.heap H locs → ∀ ls : Array Slot, lv_has ls 8 [(0, .ref h_m), (1, .int n0), (2, .int v2_2), (3, .int v3_5)] → W p l e ({ frames := 1, cells := 0, slots := 0, locals := 22 } : Room) s m AR below meth c H locs 0 0 QQ (F0 m 92 ls [])) ?_ ?_
      · intro v3_5 h H locs hP hD hS ls hl
        refine lv_iload_n hx hb d_Mo_smallDeterminant_92 rfl (lv_at hl 3 rfl) ?_
        refine lv_iload_n hx hb d_Mo_smallDeterminant_93 rfl (lv_at hl 1 rfl) ?_
        refine lv_icmp_ne (tgt := 99) hx hb d_Mo_smallDeterminant_94 (by decide) (fun c_6 => ?_) (fun c_6 => ?_)
        · replace h := ck_if_f h c_6
          refine lv_iconst (v := 0) hx hb d_Mo_smallDeterminant_99 (by decide) ?_
          refine lv_istore (lv' := [(4, .int 0), (0, .ref h_m), (1, .int n0), (2, .int v2_2), (3, .int v3_5)]) hx hb d_Mo_smallDeterminant_100 hl (by decide) rfl (fun ls hl => ?_)
          refine ck_jn_W h (fun k' => ∀ (w_7 : Nat → Int32), k' w_7 = some r → ∀ (H : Heap) (locs : List Loc), va_P (dC, dI) cl_all [(h_m, .inr (6, [.ref h_m_one, .ref h_m_two, .ref h_m_three, .ref h_m_four, .ref h_m_five, .ref h_m_six, .ref h_m_seven, .ref h_m_eight, .ref h_m_work, .ref h_m_small, .int m_rows, .int m_columns, .int m_prime, .ref h_m_pivots, .ref h_m_freeRows, .ref h_m_freeColumns, .ref h_m_minor, .ref h_m_smallMinor, .ref h_m_fields, .ref h_m_rowCounts, .ref h_m_elements, .ref h_m_numbers, .ref h_m_known, .ref h_m_ranks, .ref h_m_rankOf, .ref h_m_signOf, .ref h_m_order, .ref h_m_sizes, .ref h_m_coefficients, .ref h_m_choices, .ref h_m_sorted])), (h_m_smallMinor, .inl (cI, m_smallMinor_n, .inl w_7)), (h_m_small, .inl (cI, m_small_n, .inl m_small)), (h_m_freeRows, .inl (cI, m_freeRows_n, .inl m_freeRows)), (h_m_freeColumns, .inl (cI, m_freeColumns_n, .inl m_freeColumns))] H → va_D A [(h_m, .inr (6, [.ref h_m_one, .ref h_m_two, .ref h_m_three, .ref h_m_four, .ref h_m_five, .ref h_m_six, .ref h_m_seven, .ref h_m_eight, .ref h_m_work, .ref h_m_small, .int m_rows, .int m_columns, .int m_prime, .ref h_m_pivots, .ref h_m_freeRows, .ref h_m_freeColumns, .ref h_m_minor, .ref h_m_smallMinor, .ref h_m_fields, .ref h_m_rowCounts, .ref h_m_elements, .ref h_m_numbers, .ref h_m_known, .ref h_m_ranks, .ref h_m_rankOf, .ref h_m_signOf, .ref h_m_order, .ref h_m_sizes, .ref h_m_coefficients, .ref h_m_choices, .ref h_m_sorted])), (h_m_smallMinor, .inl (cI, m_smallMinor_n, .inl w_7)), (h_m_small, .inl (cI, m_small_n, .inl m_small)), (h_m_freeRows, .inl (cI, m_freeRows_n, .inl m_freeRows)), (h_m_freeColumns, .inl (cI, m_freeColumns_n, .inl m_freeColumns))] → va_S A s.heap H locs → ∀ ls : Array Slot, lv_has ls 8 [(0, .ref h_m), (1, .int n0), (2, .int v2_2)] → W p l e ({ frames := 1, cells := 0, slots := 0, locals := 22 } : Room) s m AR below meth c H locs 0 0 QQ (F0 m 166 ls [])) ?_ ?_
          · intro w_7 h H locs hP hD hS ls hl
            refine lv_aload_n hx hb d_Mo_smallDeterminant_166 rfl (lv_at hl 0 rfl) ?_
            refine lv_aload_n hx hb d_Mo_smallDeterminant_167 rfl (lv_at hl 0 rfl) ?_
            refine va_get (D := (dC, dI)) (ci := 6) (v := .ref h_m_smallMinor) (C := "BasisWalkModel") (T := T_Mo) (N := 31) hx hb hts iw1 hown hK hP 0 rfl rfl 17 (by decide) fl0 (fun _ h9 => h9) rfl d_Mo_smallDeterminant_168 ?_
            refine lv_bipush (v := 6) hx hb d_Mo_smallDeterminant_171 (by decide) ?_
            refine lv_iload_n hx hb d_Mo_smallDeterminant_173 rfl (lv_at hl 2 rfl) ?_
            refine lv_imul hx hb d_Mo_smallDeterminant_174 ?_
            refine lv_iload_n hx hb d_Mo_smallDeterminant_175 rfl (lv_at hl 2 rfl) ?_
            refine lv_iadd hx hb d_Mo_smallDeterminant_176 ?_
            obtain ⟨g_8, h⟩ := ck_in_s h
            refine va_iald hx hb hK hP 1 0 rfl rfl g_8 d_Mo_smallDeterminant_177 ?_
            obtain ⟨r_9, hc_10, h⟩ := ck_b1_s h
            have hPc := hP.sub (ws' := [(h_m, .inr (6, [.ref h_m_one, .ref h_m_two, .ref h_m_three, .ref h_m_four, .ref h_m_five, .ref h_m_six, .ref h_m_seven, .ref h_m_eight, .ref h_m_work, .ref h_m_small, .int m_rows, .int m_columns, .int m_prime, .ref h_m_pivots, .ref h_m_freeRows, .ref h_m_freeColumns, .ref h_m_minor, .ref h_m_smallMinor, .ref h_m_fields, .ref h_m_rowCounts, .ref h_m_elements, .ref h_m_numbers, .ref h_m_known, .ref h_m_ranks, .ref h_m_rankOf, .ref h_m_signOf, .ref h_m_order, .ref h_m_sizes, .ref h_m_coefficients, .ref h_m_choices, .ref h_m_sorted]))]) [0] rfl
            have hDc := hD.sub (ws' := [(h_m, .inr (6, [.ref h_m_one, .ref h_m_two, .ref h_m_three, .ref h_m_four, .ref h_m_five, .ref h_m_six, .ref h_m_seven, .ref h_m_eight, .ref h_m_work, .ref h_m_small, .int m_rows, .int m_columns, .int m_prime, .ref h_m_pivots, .ref h_m_freeRows, .ref h_m_freeColumns, .ref h_m_minor, .ref h_m_smallMinor, .ref h_m_fields, .ref h_m_rowCounts, .ref h_m_elements, .ref h_m_numbers, .ref h_m_known, .ref h_m_ranks, .ref h_m_rankOf, .ref h_m_signOf, .ref h_m_order, .ref h_m_sizes, .ref h_m_coefficients, .ref h_m_choices, .ref h_m_sorted]))]) [0] (by decide) rfl
            have hFc := va_free (wc := [(h_m, .inr (6, [.ref h_m_one, .ref h_m_two, .ref h_m_three, .ref h_m_four, .ref h_m_five, .ref h_m_six, .ref h_m_seven, .ref h_m_eight, .ref h_m_work, .ref h_m_small, .int m_rows, .int m_columns, .int m_prime, .ref h_m_pivots, .ref h_m_freeRows, .ref h_m_freeColumns, .ref h_m_minor, .ref h_m_smallMinor, .ref h_m_fields, .ref h_m_rowCounts, .ref h_m_elements, .ref h_m_numbers, .ref h_m_known, .ref h_m_ranks, .ref h_m_rankOf, .ref h_m_signOf, .ref h_m_order, .ref h_m_sizes, .ref h_m_coefficients, .ref h_m_choices, .ref h_m_sorted]))]) hD hS hA [0] rfl
            refine va_calli (va_runV (As := [.int (w_7 ((6 * v2_2) + v2_2).toNatClampNeg)]) (rest := []) ⟨hx, hb, hml, hown, hts⟩ (c_R_inverse l dC dI cI cJ cB cZ cT cN H.size h_m h_m_one h_m_two h_m_three h_m_four h_m_five h_m_six h_m_seven h_m_eight h_m_work h_m_small h_m_pivots h_m_freeRows h_m_freeColumns h_m_minor h_m_smallMinor h_m_fields h_m_rowCounts h_m_elements h_m_numbers h_m_known h_m_ranks h_m_rankOf h_m_signOf h_m_order h_m_sizes h_m_coefficients h_m_choices h_m_sorted m_rows m_columns m_prime (w_7 ((6 * v2_2) + v2_2).toNatClampNeg) _ hc_10) (cwV 1 hts (tb_V tw_518 tw_520 tp_26 tw_6 tw_521) rfl rfl rfl (by decide +kernel) ⟨Nat.le_of_ble_eq_true rfl, Nat.le_of_ble_eq_true rfl⟩) ⟨fun a U g mk q => by obtain ⟨q0, q1, qP, qK, qN, qD⟩ := q; exact ⟨q0, q1, qP, va_K.moved (u := U) (U := U.calling g mk a) (Vm.Alike.refl U.vm) qK, qN.same rfl, qD⟩, va_recv hK hPc (ci := 6) (q0 := 0) rfl rfl, fun U hU hW => ⟨rfl, by rw [hU], by rw [hU]; exact hPc, va_K.moved hW.alike hK, hN.warm hW, hDc.weaken (fun _ _ _ _ => trivial)⟩⟩ rfl rfl hl.1 rfl (lv_room (Nat.le_of_ble_eq_true rfl)) d_Mo_smallDeterminant_178 ⟨Nat.zero_le _, Nat.zero_le _⟩) hS (fun q _ h => hFc q h) hFc (fun rr u t H1 locs ht hvm hw hB hz1 hk1 hS => ?_)
            replace hw := hw.symm
            subst hw
            obtain ⟨hP1, -, hD1⟩ := hB
            rw [ht] at hP1
            obtain ⟨hP, hD⟩ := va_join (wr := [(h_m_smallMinor, .inl (cI, m_smallMinor_n, .inl w_7)), (h_m_small, .inl (cI, m_small_n, .inl m_small)), (h_m_freeRows, .inl (cI, m_freeRows_n, .inl m_freeRows)), (h_m_freeColumns, .inl (cI, m_freeColumns_n, .inl m_freeColumns))]) (w1 := [(h_m, .inr (6, [.ref h_m_one, .ref h_m_two, .ref h_m_three, .ref h_m_four, .ref h_m_five, .ref h_m_six, .ref h_m_seven, .ref h_m_eight, .ref h_m_work, .ref h_m_small, .int m_rows, .int m_columns, .int m_prime, .ref h_m_pivots, .ref h_m_freeRows, .ref h_m_freeColumns, .ref h_m_minor, .ref h_m_smallMinor, .ref h_m_fields, .ref h_m_rowCounts, .ref h_m_elements, .ref h_m_numbers, .ref h_m_known, .ref h_m_ranks, .ref h_m_rankOf, .ref h_m_signOf, .ref h_m_order, .ref h_m_sizes, .ref h_m_coefficients, .ref h_m_choices, .ref h_m_sorted]))]) hP hD [0] [1, 2, 3, 4] rfl rfl (by decide) (by decide) hk1 hFc hP1 hD1
            generalize H1 = H at hP hS ⊢
            have hP : va_P (dC, dI) cl_all [(h_m, .inr (6, [.ref h_m_one, .ref h_m_two, .ref h_m_three, .ref h_m_four, .ref h_m_five, .ref h_m_six, .ref h_m_seven, .ref h_m_eight, .ref h_m_work, .ref h_m_small, .int m_rows, .int m_columns, .int m_prime, .ref h_m_pivots, .ref h_m_freeRows, .ref h_m_freeColumns, .ref h_m_minor, .ref h_m_smallMinor, .ref h_m_fields, .ref h_m_rowCounts, .ref h_m_elements, .ref h_m_numbers, .ref h_m_known, .ref h_m_ranks, .ref h_m_rankOf, .ref h_m_signOf, .ref h_m_order, .ref h_m_sizes, .ref h_m_coefficients, .ref h_m_choices, .ref h_m_sorted])), (h_m_smallMinor, .inl (cI, m_smallMinor_n, .inl w_7)), (h_m_small, .inl (cI, m_small_n, .inl m_small)), (h_m_freeRows, .inl (cI, m_freeRows_n, .inl m_freeRows)), (h_m_freeColumns, .inl (cI, m_freeColumns_n, .inl m_freeColumns))] H := hP.sub [4, 0, 1, 2, 3] rfl
            have hD : va_D A [(h_m, .inr (6, [.ref h_m_one, .ref h_m_two, .ref h_m_three, .ref h_m_four, .ref h_m_five, .ref h_m_six, .ref h_m_seven, .ref h_m_eight, .ref h_m_work, .ref h_m_small, .int m_rows, .int m_columns, .int m_prime, .ref h_m_pivots, .ref h_m_freeRows, .ref h_m_freeColumns, .ref h_m_minor, .ref h_m_smallMinor, .ref h_m_fields, .ref h_m_rowCounts, .ref h_m_elements, .ref h_m_numbers, .ref h_m_known, .ref h_m_ranks, .ref h_m_rankOf, .ref h_m_signOf, .ref h_m_order, .ref h_m_sizes, .ref h_m_coefficients, .ref h_m_choices, .ref h_m_sorted])), (h_m_smallMinor, .inl (cI, m_smallMinor_n, .inl w_7)), (h_m_small, .inl (cI, m_small_n, .inl m_small)), (h_m_freeRows, .inl (cI, m_freeRows_n, .inl m_freeRows)), (h_m_freeColumns, .inl (cI, m_freeColumns_n, .inl m_freeColumns))] := hD.sub [4, 0, 1, 2, 3] (by decide) rfl
            refine lv_istore (lv' := [(4, .int r_9), (0, .ref h_m), (1, .int n0), (2, .int v2_2)]) hx hb d_Mo_smallDeterminant_181 hl (by decide) rfl (fun ls hl => ?_)
            refine lv_iload_n hx hb d_Mo_smallDeterminant_183 rfl (lv_at hl 3 rfl) ?_
            refine lv_iconst (v := 1) hx hb d_Mo_smallDeterminant_184 (by decide) ?_
            refine lv_iadd hx hb d_Mo_smallDeterminant_185 ?_
            refine lv_topi (fun x_11 ex_11 => ?_)
            replace h := ck_nm_s h ex_11
            refine lv_istore (lv' := [(5, .int x_11), (4, .int r_9), (0, .ref h_m), (1, .int n0), (2, .int v2_2)]) hx hb d_Mo_smallDeterminant_186 hl (by decide) rfl (fun ls hl => ?_)
            refine ck_jn_W h (fun k' => ∀ (w_12 : Nat → Int32), k' w_12 = some r → ∀ (H : Heap) (locs : List Loc), va_P (dC, dI) cl_all [(h_m, .inr (6, [.ref h_m_one, .ref h_m_two, .ref h_m_three, .ref h_m_four, .ref h_m_five, .ref h_m_six, .ref h_m_seven, .ref h_m_eight, .ref h_m_work, .ref h_m_small, .int m_rows, .int m_columns, .int m_prime, .ref h_m_pivots, .ref h_m_freeRows, .ref h_m_freeColumns, .ref h_m_minor, .ref h_m_smallMinor, .ref h_m_fields, .ref h_m_rowCounts, .ref h_m_elements, .ref h_m_numbers, .ref h_m_known, .ref h_m_ranks, .ref h_m_rankOf, .ref h_m_signOf, .ref h_m_order, .ref h_m_sizes, .ref h_m_coefficients, .ref h_m_choices, .ref h_m_sorted])), (h_m_smallMinor, .inl (cI, m_smallMinor_n, .inl w_12)), (h_m_small, .inl (cI, m_small_n, .inl m_small)), (h_m_freeRows, .inl (cI, m_freeRows_n, .inl m_freeRows)), (h_m_freeColumns, .inl (cI, m_freeColumns_n, .inl m_freeColumns))] H → va_D A [(h_m, .inr (6, [.ref h_m_one, .ref h_m_two, .ref h_m_three, .ref h_m_four, .ref h_m_five, .ref h_m_six, .ref h_m_seven, .ref h_m_eight, .ref h_m_work, .ref h_m_small, .int m_rows, .int m_columns, .int m_prime, .ref h_m_pivots, .ref h_m_freeRows, .ref h_m_freeColumns, .ref h_m_minor, .ref h_m_smallMinor, .ref h_m_fields, .ref h_m_rowCounts, .ref h_m_elements, .ref h_m_numbers, .ref h_m_known, .ref h_m_ranks, .ref h_m_rankOf, .ref h_m_signOf, .ref h_m_order, .ref h_m_sizes, .ref h_m_coefficients, .ref h_m_choices, .ref h_m_sorted])), (h_m_smallMinor, .inl (cI, m_smallMinor_n, .inl w_12)), (h_m_small, .inl (cI, m_small_n, .inl m_small)), (h_m_freeRows, .inl (cI, m_freeRows_n, .inl m_freeRows)), (h_m_freeColumns, .inl (cI, m_freeColumns_n, .inl m_freeColumns))] → va_S A s.heap H locs → ∀ ls : Array Slot, lv_has ls 8 [(0, .ref h_m), (1, .int n0), (2, .int v2_2)] → W p l e ({ frames := 1, cells := 0, slots := 0, locals := 22 } : Room) s m AR below meth c H locs 0 0 QQ (F0 m 289 ls [])) ?_ ?_
            · intro w_12 h H locs hP hD hS ls hl
              obtain ⟨x_13, ex_13⟩ : ∃ y : Int32, y = v2_2 + 1 := ⟨_, rfl⟩
              replace h := ck_nm_s h ex_13
              refine lv_iinc (v := x_13) (lv' := [(2, .int x_13), (0, .ref h_m), (1, .int n0)]) hx hb d_Mo_smallDeterminant_289 hl (k := 2) rfl (by rw [ex_13]; rfl) (by decide) rfl (fun ls hl => ?_)
              refine lv_goto (tgt := 60) hx hb d_Mo_smallDeterminant_292 (by decide) ?_
              exact J_60 _ _ h _ _ hP hD hS _ (lv_sub hl [1, 2, 0] rfl)
            · intro k_289 J_289 h
              refine lo2_W (r := r) (fun (v5_14 : Int32) (w_15 : Nat → Int32) => ∀ (H : Heap) (locs : List Loc), va_P (dC, dI) cl_all [(h_m, .inr (6, [.ref h_m_one, .ref h_m_two, .ref h_m_three, .ref h_m_four, .ref h_m_five, .ref h_m_six, .ref h_m_seven, .ref h_m_eight, .ref h_m_work, .ref h_m_small, .int m_rows, .int m_columns, .int m_prime, .ref h_m_pivots, .ref h_m_freeRows, .ref h_m_freeColumns, .ref h_m_minor, .ref h_m_smallMinor, .ref h_m_fields, .ref h_m_rowCounts, .ref h_m_elements, .ref h_m_numbers, .ref h_m_known, .ref h_m_ranks, .ref h_m_rankOf, .ref h_m_signOf, .ref h_m_order, .ref h_m_sizes, .ref h_m_coefficients, .ref h_m_choices, .ref h_m_sorted])), (h_m_smallMinor, .inl (cI, m_smallMinor_n, .inl w_15)), (h_m_small, .inl (cI, m_small_n, .inl m_small)), (h_m_freeRows, .inl (cI, m_freeRows_n, .inl m_freeRows)), (h_m_freeColumns, .inl (cI, m_freeColumns_n, .inl m_freeColumns))] H → va_D A [(h_m, .inr (6, [.ref h_m_one, .ref h_m_two, .ref h_m_three, .ref h_m_four, .ref h_m_five, .ref h_m_six, .ref h_m_seven, .ref h_m_eight, .ref h_m_work, .ref h_m_small, .int m_rows, .int m_columns, .int m_prime, .ref h_m_pivots, .ref h_m_freeRows, .ref h_m_freeColumns, .ref h_m_minor, .ref h_m_smallMinor, .ref h_m_fields, .ref h_m_rowCounts, .ref h_m_elements, .ref h_m_numbers, .ref h_m_known, .ref h_m_ranks, .ref h_m_rankOf, .ref h_m_signOf, .ref h_m_order, .ref h_m_sizes, .ref h_m_coefficients, .ref h_m_choices, .ref h_m_sorted])), (h_m_smallMinor, .inl (cI, m_smallMinor_n, .inl w_15)), (h_m_small, .inl (cI, m_small_n, .inl m_small)), (h_m_freeRows, .inl (cI, m_freeRows_n, .inl m_freeRows)), (h_m_freeColumns, .inl (cI, m_freeColumns_n, .inl m_freeColumns))] → va_S A s.heap H locs → ∀ ls : Array Slot, lv_has ls 8 [(0, .ref h_m), (1, .int n0), (2, .int v2_2), (4, .int r_9), (5, .int v5_14)] → W p l e ({ frames := 1, cells := 0, slots := 0, locals := 22 } : Room) s m AR below meth c H locs 0 0 QQ (F0 m 188 ls [])) ?_ _ _ _ h _ _ hP hD hS _ (lv_sub hl [2, 3, 4, 1, 0] rfl)
              intro k_188 v5_14 w_15 J_188 h H locs hP hD hS ls hl
              refine lv_iload hx hb d_Mo_smallDeterminant_188 (lv_at hl 4 rfl) ?_
              refine lv_iload_n hx hb d_Mo_smallDeterminant_190 rfl (lv_at hl 1 rfl) ?_
              refine lv_icmp_ge (tgt := 289) hx hb d_Mo_smallDeterminant_191 (by decide) (fun c_16 => ?_) (fun c_16 => ?_)
              · replace h := ck_if_t h c_16
                exact J_289 _ h _ _ hP hD hS _ (lv_sub hl [0, 1, 2] rfl)
              · replace h := ck_if_f h c_16
                refine lv_aload_n hx hb d_Mo_smallDeterminant_194 rfl (lv_at hl 0 rfl) ?_
                refine va_get (D := (dC, dI)) (ci := 6) (v := .ref h_m_smallMinor) (C := "BasisWalkModel") (T := T_Mo) (N := 31) hx hb hts iw1 hown hK hP 0 rfl rfl 17 (by decide) fl0 (fun _ h9 => h9) rfl d_Mo_smallDeterminant_195 ?_
                refine lv_bipush (v := 6) hx hb d_Mo_smallDeterminant_198 (by decide) ?_
                refine lv_iload hx hb d_Mo_smallDeterminant_200 (lv_at hl 4 rfl) ?_
                refine lv_imul hx hb d_Mo_smallDeterminant_202 ?_
                refine lv_iload_n hx hb d_Mo_smallDeterminant_203 rfl (lv_at hl 2 rfl) ?_
                refine lv_iadd hx hb d_Mo_smallDeterminant_204 ?_
                obtain ⟨g_17, h⟩ := ck_in_s h
                refine va_iald hx hb hK hP 1 0 rfl rfl g_17 d_Mo_smallDeterminant_205 ?_
                refine lv_iload hx hb d_Mo_smallDeterminant_206 (lv_at hl 3 rfl) ?_
                refine lv_imul hx hb d_Mo_smallDeterminant_208 ?_
                refine lv_aload_n hx hb d_Mo_smallDeterminant_209 rfl (lv_at hl 0 rfl) ?_
                refine va_get (D := (dC, dI)) (ci := 6) (v := .int m_prime) (C := "BasisWalkModel") (T := T_Mo) (N := 31) hx hb hts iw1 hown hK hP 0 rfl rfl 12 (by decide) fl2 (fun _ h9 => h9) rfl d_Mo_smallDeterminant_210 ?_
                obtain ⟨g_18, h⟩ := ck_nz_s h
                refine lv_irem hx hb d_Mo_smallDeterminant_213 g_18 ?_
                refine lv_topi (fun x_19 ex_19 => ?_)
                replace h := ck_nm_s h ex_19
                refine lv_istore (lv' := [(6, .int x_19), (0, .ref h_m), (1, .int n0), (2, .int v2_2), (4, .int r_9), (5, .int v5_14)]) hx hb d_Mo_smallDeterminant_214 hl (by decide) rfl (fun ls hl => ?_)
                refine lv_iload_n hx hb d_Mo_smallDeterminant_216 rfl (lv_at hl 3 rfl) ?_
                refine lv_istore (lv' := [(7, .int v2_2), (6, .int x_19), (0, .ref h_m), (1, .int n0), (2, .int v2_2), (4, .int r_9), (5, .int v5_14)]) hx hb d_Mo_smallDeterminant_217 hl (by decide) rfl (fun ls hl => ?_)
                refine ck_jn_W h (fun k' => ∀ (w_20 : Nat → Int32), k' w_20 = some r → ∀ (H : Heap) (locs : List Loc), va_P (dC, dI) cl_all [(h_m, .inr (6, [.ref h_m_one, .ref h_m_two, .ref h_m_three, .ref h_m_four, .ref h_m_five, .ref h_m_six, .ref h_m_seven, .ref h_m_eight, .ref h_m_work, .ref h_m_small, .int m_rows, .int m_columns, .int m_prime, .ref h_m_pivots, .ref h_m_freeRows, .ref h_m_freeColumns, .ref h_m_minor, .ref h_m_smallMinor, .ref h_m_fields, .ref h_m_rowCounts, .ref h_m_elements, .ref h_m_numbers, .ref h_m_known, .ref h_m_ranks, .ref h_m_rankOf, .ref h_m_signOf, .ref h_m_order, .ref h_m_sizes, .ref h_m_coefficients, .ref h_m_choices, .ref h_m_sorted])), (h_m_smallMinor, .inl (cI, m_smallMinor_n, .inl w_20)), (h_m_small, .inl (cI, m_small_n, .inl m_small)), (h_m_freeRows, .inl (cI, m_freeRows_n, .inl m_freeRows)), (h_m_freeColumns, .inl (cI, m_freeColumns_n, .inl m_freeColumns))] H → va_D A [(h_m, .inr (6, [.ref h_m_one, .ref h_m_two, .ref h_m_three, .ref h_m_four, .ref h_m_five, .ref h_m_six, .ref h_m_seven, .ref h_m_eight, .ref h_m_work, .ref h_m_small, .int m_rows, .int m_columns, .int m_prime, .ref h_m_pivots, .ref h_m_freeRows, .ref h_m_freeColumns, .ref h_m_minor, .ref h_m_smallMinor, .ref h_m_fields, .ref h_m_rowCounts, .ref h_m_elements, .ref h_m_numbers, .ref h_m_known, .ref h_m_ranks, .ref h_m_rankOf, .ref h_m_signOf, .ref h_m_order, .ref h_m_sizes, .ref h_m_coefficients, .ref h_m_choices, .ref h_m_sorted])), (h_m_smallMinor, .inl (cI, m_smallMinor_n, .inl w_20)), (h_m_small, .inl (cI, m_small_n, .inl m_small)), (h_m_freeRows, .inl (cI, m_freeRows_n, .inl m_freeRows)), (h_m_freeColumns, .inl (cI, m_freeColumns_n, .inl m_freeColumns))] → va_S A s.heap H locs → ∀ ls : Array Slot, lv_has ls 8 [(0, .ref h_m), (1, .int n0), (2, .int v2_2), (4, .int r_9), (5, .int v5_14)] → W p l e ({ frames := 1, cells := 0, slots := 0, locals := 22 } : Room) s m AR below meth c H locs 0 0 QQ (F0 m 283 ls [])) ?_ ?_
                · intro w_20 h H locs hP hD hS ls hl
                  obtain ⟨x_21, ex_21⟩ : ∃ y : Int32, y = v5_14 + 1 := ⟨_, rfl⟩
                  replace h := ck_nm_s h ex_21
                  refine lv_iinc (v := x_21) (lv' := [(5, .int x_21), (0, .ref h_m), (1, .int n0), (2, .int v2_2), (4, .int r_9)]) hx hb d_Mo_smallDeterminant_283 hl (k := 4) rfl (by rw [ex_21]; rfl) (by decide) rfl (fun ls hl => ?_)
                  refine lv_goto (tgt := 188) hx hb d_Mo_smallDeterminant_286 (by decide) ?_
                  exact J_188 _ _ h _ _ hP hD hS _ (lv_sub hl [1, 2, 3, 4, 0] rfl)
                · intro k_283 J_283 h
                  refine lo2_W (r := r) (fun (v7_22 : Int32) (w_23 : Nat → Int32) => ∀ (H : Heap) (locs : List Loc), va_P (dC, dI) cl_all [(h_m, .inr (6, [.ref h_m_one, .ref h_m_two, .ref h_m_three, .ref h_m_four, .ref h_m_five, .ref h_m_six, .ref h_m_seven, .ref h_m_eight, .ref h_m_work, .ref h_m_small, .int m_rows, .int m_columns, .int m_prime, .ref h_m_pivots, .ref h_m_freeRows, .ref h_m_freeColumns, .ref h_m_minor, .ref h_m_smallMinor, .ref h_m_fields, .ref h_m_rowCounts, .ref h_m_elements, .ref h_m_numbers, .ref h_m_known, .ref h_m_ranks, .ref h_m_rankOf, .ref h_m_signOf, .ref h_m_order, .ref h_m_sizes, .ref h_m_coefficients, .ref h_m_choices, .ref h_m_sorted])), (h_m_smallMinor, .inl (cI, m_smallMinor_n, .inl w_23)), (h_m_small, .inl (cI, m_small_n, .inl m_small)), (h_m_freeRows, .inl (cI, m_freeRows_n, .inl m_freeRows)), (h_m_freeColumns, .inl (cI, m_freeColumns_n, .inl m_freeColumns))] H → va_D A [(h_m, .inr (6, [.ref h_m_one, .ref h_m_two, .ref h_m_three, .ref h_m_four, .ref h_m_five, .ref h_m_six, .ref h_m_seven, .ref h_m_eight, .ref h_m_work, .ref h_m_small, .int m_rows, .int m_columns, .int m_prime, .ref h_m_pivots, .ref h_m_freeRows, .ref h_m_freeColumns, .ref h_m_minor, .ref h_m_smallMinor, .ref h_m_fields, .ref h_m_rowCounts, .ref h_m_elements, .ref h_m_numbers, .ref h_m_known, .ref h_m_ranks, .ref h_m_rankOf, .ref h_m_signOf, .ref h_m_order, .ref h_m_sizes, .ref h_m_coefficients, .ref h_m_choices, .ref h_m_sorted])), (h_m_smallMinor, .inl (cI, m_smallMinor_n, .inl w_23)), (h_m_small, .inl (cI, m_small_n, .inl m_small)), (h_m_freeRows, .inl (cI, m_freeRows_n, .inl m_freeRows)), (h_m_freeColumns, .inl (cI, m_freeColumns_n, .inl m_freeColumns))] → va_S A s.heap H locs → ∀ ls : Array Slot, lv_has ls 8 [(0, .ref h_m), (1, .int n0), (2, .int v2_2), (4, .int r_9), (5, .int v5_14), (6, .int x_19), (7, .int v7_22)] → W p l e ({ frames := 1, cells := 0, slots := 0, locals := 22 } : Room) s m AR below meth c H locs 0 0 QQ (F0 m 219 ls [])) ?_ _ _ _ h _ _ hP hD hS _ (lv_sub hl [2, 3, 4, 5, 6, 1, 0] rfl)
                  intro k_219 v7_22 w_23 J_219 h H locs hP hD hS ls hl
                  refine lv_iload hx hb d_Mo_smallDeterminant_219 (lv_at hl 6 rfl) ?_
                  refine lv_iload_n hx hb d_Mo_smallDeterminant_221 rfl (lv_at hl 1 rfl) ?_
                  refine lv_icmp_ge (tgt := 283) hx hb d_Mo_smallDeterminant_222 (by decide) (fun c_24 => ?_) (fun c_24 => ?_)
                  · replace h := ck_if_t h c_24
                    exact J_283 _ h _ _ hP hD hS _ (lv_sub hl [0, 1, 2, 3, 4] rfl)
                  · replace h := ck_if_f h c_24
                    refine lv_aload_n hx hb d_Mo_smallDeterminant_225 rfl (lv_at hl 0 rfl) ?_
                    refine va_get (D := (dC, dI)) (ci := 6) (v := .ref h_m_smallMinor) (C := "BasisWalkModel") (T := T_Mo) (N := 31) hx hb hts iw1 hown hK hP 0 rfl rfl 17 (by decide) fl0 (fun _ h9 => h9) rfl d_Mo_smallDeterminant_226 ?_
                    refine lv_bipush (v := 6) hx hb d_Mo_smallDeterminant_229 (by decide) ?_
                    refine lv_iload hx hb d_Mo_smallDeterminant_231 (lv_at hl 4 rfl) ?_
                    refine lv_imul hx hb d_Mo_smallDeterminant_233 ?_
                    refine lv_iload hx hb d_Mo_smallDeterminant_234 (lv_at hl 6 rfl) ?_
                    refine lv_iadd hx hb d_Mo_smallDeterminant_236 ?_
                    refine lv_aload_n hx hb d_Mo_smallDeterminant_237 rfl (lv_at hl 0 rfl) ?_
                    refine va_get (D := (dC, dI)) (ci := 6) (v := .ref h_m_smallMinor) (C := "BasisWalkModel") (T := T_Mo) (N := 31) hx hb hts iw1 hown hK hP 0 rfl rfl 17 (by decide) fl0 (fun _ h9 => h9) rfl d_Mo_smallDeterminant_238 ?_
                    refine lv_bipush (v := 6) hx hb d_Mo_smallDeterminant_241 (by decide) ?_
                    refine lv_iload hx hb d_Mo_smallDeterminant_243 (lv_at hl 4 rfl) ?_
                    refine lv_imul hx hb d_Mo_smallDeterminant_245 ?_
                    refine lv_iload hx hb d_Mo_smallDeterminant_246 (lv_at hl 6 rfl) ?_
                    refine lv_iadd hx hb d_Mo_smallDeterminant_248 ?_
                    obtain ⟨g_25, h⟩ := ck_in_s h
                    refine va_iald hx hb hK hP 1 0 rfl rfl g_25 d_Mo_smallDeterminant_249 ?_
                    refine lv_aload_n hx hb d_Mo_smallDeterminant_250 rfl (lv_at hl 0 rfl) ?_
                    refine va_get (D := (dC, dI)) (ci := 6) (v := .int m_prime) (C := "BasisWalkModel") (T := T_Mo) (N := 31) hx hb hts iw1 hown hK hP 0 rfl rfl 12 (by decide) fl2 (fun _ h9 => h9) rfl d_Mo_smallDeterminant_251 ?_
                    refine lv_iload hx hb d_Mo_smallDeterminant_254 (lv_at hl 5 rfl) ?_
                    refine lv_isub hx hb d_Mo_smallDeterminant_256 ?_
                    refine lv_aload_n hx hb d_Mo_smallDeterminant_257 rfl (lv_at hl 0 rfl) ?_
                    refine va_get (D := (dC, dI)) (ci := 6) (v := .ref h_m_smallMinor) (C := "BasisWalkModel") (T := T_Mo) (N := 31) hx hb hts iw1 hown hK hP 0 rfl rfl 17 (by decide) fl0 (fun _ h9 => h9) rfl d_Mo_smallDeterminant_258 ?_
                    refine lv_bipush (v := 6) hx hb d_Mo_smallDeterminant_261 (by decide) ?_
                    refine lv_iload_n hx hb d_Mo_smallDeterminant_263 rfl (lv_at hl 2 rfl) ?_
                    refine lv_imul hx hb d_Mo_smallDeterminant_264 ?_
                    refine lv_iload hx hb d_Mo_smallDeterminant_265 (lv_at hl 6 rfl) ?_
                    refine lv_iadd hx hb d_Mo_smallDeterminant_267 ?_
                    obtain ⟨g_26, h⟩ := ck_in_s h
                    refine va_iald hx hb hK hP 1 0 rfl rfl g_26 d_Mo_smallDeterminant_268 ?_
                    refine lv_imul hx hb d_Mo_smallDeterminant_269 ?_
                    refine lv_iadd hx hb d_Mo_smallDeterminant_270 ?_
                    refine lv_aload_n hx hb d_Mo_smallDeterminant_271 rfl (lv_at hl 0 rfl) ?_
                    refine va_get (D := (dC, dI)) (ci := 6) (v := .int m_prime) (C := "BasisWalkModel") (T := T_Mo) (N := 31) hx hb hts iw1 hown hK hP 0 rfl rfl 12 (by decide) fl2 (fun _ h9 => h9) rfl d_Mo_smallDeterminant_272 ?_
                    obtain ⟨g_27, h⟩ := ck_nz_s h
                    refine lv_irem hx hb d_Mo_smallDeterminant_275 g_27 ?_
                    obtain ⟨g_28, h⟩ := ck_in_s h
                    refine va_iast hx hb hK hP hD hS 1 0 rfl rfl g_28 d_Mo_smallDeterminant_276 (fun H locs hP hD hS => ?_)
                    have hP : va_P (dC, dI) cl_all [(h_m, .inr (6, [.ref h_m_one, .ref h_m_two, .ref h_m_three, .ref h_m_four, .ref h_m_five, .ref h_m_six, .ref h_m_seven, .ref h_m_eight, .ref h_m_work, .ref h_m_small, .int m_rows, .int m_columns, .int m_prime, .ref h_m_pivots, .ref h_m_freeRows, .ref h_m_freeColumns, .ref h_m_minor, .ref h_m_smallMinor, .ref h_m_fields, .ref h_m_rowCounts, .ref h_m_elements, .ref h_m_numbers, .ref h_m_known, .ref h_m_ranks, .ref h_m_rankOf, .ref h_m_signOf, .ref h_m_order, .ref h_m_sizes, .ref h_m_coefficients, .ref h_m_choices, .ref h_m_sorted])), (h_m_smallMinor, .inl (cI, m_smallMinor_n, .inl (upd w_23 ((6 * v5_14) + v7_22).toNatClampNeg (((w_23 ((6 * v5_14) + v7_22).toNatClampNeg) + ((m_prime - x_19) * (w_23 ((6 * v2_2) + v7_22).toNatClampNeg))) - ((w_23 ((6 * v5_14) + v7_22).toNatClampNeg) + ((m_prime - x_19) * (w_23 ((6 * v2_2) + v7_22).toNatClampNeg))) / m_prime * m_prime)))), (h_m_small, .inl (cI, m_small_n, .inl m_small)), (h_m_freeRows, .inl (cI, m_freeRows_n, .inl m_freeRows)), (h_m_freeColumns, .inl (cI, m_freeColumns_n, .inl m_freeColumns))] H := hP
                    have hD : va_D A [(h_m, .inr (6, [.ref h_m_one, .ref h_m_two, .ref h_m_three, .ref h_m_four, .ref h_m_five, .ref h_m_six, .ref h_m_seven, .ref h_m_eight, .ref h_m_work, .ref h_m_small, .int m_rows, .int m_columns, .int m_prime, .ref h_m_pivots, .ref h_m_freeRows, .ref h_m_freeColumns, .ref h_m_minor, .ref h_m_smallMinor, .ref h_m_fields, .ref h_m_rowCounts, .ref h_m_elements, .ref h_m_numbers, .ref h_m_known, .ref h_m_ranks, .ref h_m_rankOf, .ref h_m_signOf, .ref h_m_order, .ref h_m_sizes, .ref h_m_coefficients, .ref h_m_choices, .ref h_m_sorted])), (h_m_smallMinor, .inl (cI, m_smallMinor_n, .inl (upd w_23 ((6 * v5_14) + v7_22).toNatClampNeg (((w_23 ((6 * v5_14) + v7_22).toNatClampNeg) + ((m_prime - x_19) * (w_23 ((6 * v2_2) + v7_22).toNatClampNeg))) - ((w_23 ((6 * v5_14) + v7_22).toNatClampNeg) + ((m_prime - x_19) * (w_23 ((6 * v2_2) + v7_22).toNatClampNeg))) / m_prime * m_prime)))), (h_m_small, .inl (cI, m_small_n, .inl m_small)), (h_m_freeRows, .inl (cI, m_freeRows_n, .inl m_freeRows)), (h_m_freeColumns, .inl (cI, m_freeColumns_n, .inl m_freeColumns))] := hD
                    obtain ⟨x_29, ex_29⟩ : ∃ y : Int32, y = v7_22 + 1 := ⟨_, rfl⟩
                    replace h := ck_nm_s h ex_29
                    refine lv_iinc (v := x_29) (lv' := [(7, .int x_29), (0, .ref h_m), (1, .int n0), (2, .int v2_2), (4, .int r_9), (5, .int v5_14), (6, .int x_19)]) hx hb d_Mo_smallDeterminant_277 hl (k := 6) rfl (by rw [ex_29]; rfl) (by decide) rfl (fun ls hl => ?_)
                    refine lv_goto (tgt := 219) hx hb d_Mo_smallDeterminant_280 (by decide) ?_
                    exact J_219 _ _ h _ _ hP hD hS _ (lv_sub hl [1, 2, 3, 4, 5, 6, 0] rfl)
          · intro k_166 J_166 h
            refine lo2_W (r := r) (fun (v4_30 : Int32) (w_31 : Nat → Int32) => ∀ (H : Heap) (locs : List Loc), va_P (dC, dI) cl_all [(h_m, .inr (6, [.ref h_m_one, .ref h_m_two, .ref h_m_three, .ref h_m_four, .ref h_m_five, .ref h_m_six, .ref h_m_seven, .ref h_m_eight, .ref h_m_work, .ref h_m_small, .int m_rows, .int m_columns, .int m_prime, .ref h_m_pivots, .ref h_m_freeRows, .ref h_m_freeColumns, .ref h_m_minor, .ref h_m_smallMinor, .ref h_m_fields, .ref h_m_rowCounts, .ref h_m_elements, .ref h_m_numbers, .ref h_m_known, .ref h_m_ranks, .ref h_m_rankOf, .ref h_m_signOf, .ref h_m_order, .ref h_m_sizes, .ref h_m_coefficients, .ref h_m_choices, .ref h_m_sorted])), (h_m_smallMinor, .inl (cI, m_smallMinor_n, .inl w_31)), (h_m_small, .inl (cI, m_small_n, .inl m_small)), (h_m_freeRows, .inl (cI, m_freeRows_n, .inl m_freeRows)), (h_m_freeColumns, .inl (cI, m_freeColumns_n, .inl m_freeColumns))] H → va_D A [(h_m, .inr (6, [.ref h_m_one, .ref h_m_two, .ref h_m_three, .ref h_m_four, .ref h_m_five, .ref h_m_six, .ref h_m_seven, .ref h_m_eight, .ref h_m_work, .ref h_m_small, .int m_rows, .int m_columns, .int m_prime, .ref h_m_pivots, .ref h_m_freeRows, .ref h_m_freeColumns, .ref h_m_minor, .ref h_m_smallMinor, .ref h_m_fields, .ref h_m_rowCounts, .ref h_m_elements, .ref h_m_numbers, .ref h_m_known, .ref h_m_ranks, .ref h_m_rankOf, .ref h_m_signOf, .ref h_m_order, .ref h_m_sizes, .ref h_m_coefficients, .ref h_m_choices, .ref h_m_sorted])), (h_m_smallMinor, .inl (cI, m_smallMinor_n, .inl w_31)), (h_m_small, .inl (cI, m_small_n, .inl m_small)), (h_m_freeRows, .inl (cI, m_freeRows_n, .inl m_freeRows)), (h_m_freeColumns, .inl (cI, m_freeColumns_n, .inl m_freeColumns))] → va_S A s.heap H locs → ∀ ls : Array Slot, lv_has ls 8 [(0, .ref h_m), (1, .int n0), (2, .int v2_2), (3, .int v3_5), (4, .int v4_30)] → W p l e ({ frames := 1, cells := 0, slots := 0, locals := 22 } : Room) s m AR below meth c H locs 0 0 QQ (F0 m 102 ls [])) ?_ _ _ _ h _ _ hP hD hS _ (lv_sub hl [1, 2, 3, 4, 0] rfl)
            intro k_102 v4_30 w_31 J_102 h H locs hP hD hS ls hl
            refine lv_iload hx hb d_Mo_smallDeterminant_102 (lv_at hl 4 rfl) ?_
            refine lv_iload_n hx hb d_Mo_smallDeterminant_104 rfl (lv_at hl 1 rfl) ?_
            refine lv_icmp_ge (tgt := 166) hx hb d_Mo_smallDeterminant_105 (by decide) (fun c_32 => ?_) (fun c_32 => ?_)
            · replace h := ck_if_t h c_32
              exact J_166 _ h _ _ hP hD hS _ (lv_sub hl [0, 1, 2] rfl)
            · replace h := ck_if_f h c_32
              refine lv_aload_n hx hb d_Mo_smallDeterminant_108 rfl (lv_at hl 0 rfl) ?_
              refine va_get (D := (dC, dI)) (ci := 6) (v := .ref h_m_smallMinor) (C := "BasisWalkModel") (T := T_Mo) (N := 31) hx hb hts iw1 hown hK hP 0 rfl rfl 17 (by decide) fl0 (fun _ h9 => h9) rfl d_Mo_smallDeterminant_109 ?_
              refine lv_bipush (v := 6) hx hb d_Mo_smallDeterminant_112 (by decide) ?_
              refine lv_iload_n hx hb d_Mo_smallDeterminant_114 rfl (lv_at hl 3 rfl) ?_
              refine lv_imul hx hb d_Mo_smallDeterminant_115 ?_
              refine lv_iload hx hb d_Mo_smallDeterminant_116 (lv_at hl 4 rfl) ?_
              refine lv_iadd hx hb d_Mo_smallDeterminant_118 ?_
              obtain ⟨g_33, h⟩ := ck_in_s h
              refine va_iald hx hb hK hP 1 0 rfl rfl g_33 d_Mo_smallDeterminant_119 ?_
              refine lv_topi (fun x_34 ex_34 => ?_)
              replace h := ck_nm_s h ex_34
              refine lv_istore (lv' := [(5, .int x_34), (0, .ref h_m), (1, .int n0), (2, .int v2_2), (3, .int v3_5), (4, .int v4_30)]) hx hb d_Mo_smallDeterminant_120 hl (by decide) rfl (fun ls hl => ?_)
              refine lv_aload_n hx hb d_Mo_smallDeterminant_122 rfl (lv_at hl 1 rfl) ?_
              refine va_get (D := (dC, dI)) (ci := 6) (v := .ref h_m_smallMinor) (C := "BasisWalkModel") (T := T_Mo) (N := 31) hx hb hts iw1 hown hK hP 0 rfl rfl 17 (by decide) fl0 (fun _ h9 => h9) rfl d_Mo_smallDeterminant_123 ?_
              refine lv_bipush (v := 6) hx hb d_Mo_smallDeterminant_126 (by decide) ?_
              refine lv_iload_n hx hb d_Mo_smallDeterminant_128 rfl (lv_at hl 4 rfl) ?_
              refine lv_imul hx hb d_Mo_smallDeterminant_129 ?_
              refine lv_iload hx hb d_Mo_smallDeterminant_130 (lv_at hl 5 rfl) ?_
              refine lv_iadd hx hb d_Mo_smallDeterminant_132 ?_
              refine lv_aload_n hx hb d_Mo_smallDeterminant_133 rfl (lv_at hl 1 rfl) ?_
              refine va_get (D := (dC, dI)) (ci := 6) (v := .ref h_m_smallMinor) (C := "BasisWalkModel") (T := T_Mo) (N := 31) hx hb hts iw1 hown hK hP 0 rfl rfl 17 (by decide) fl0 (fun _ h9 => h9) rfl d_Mo_smallDeterminant_134 ?_
              refine lv_bipush (v := 6) hx hb d_Mo_smallDeterminant_137 (by decide) ?_
              refine lv_iload_n hx hb d_Mo_smallDeterminant_139 rfl (lv_at hl 3 rfl) ?_
              refine lv_imul hx hb d_Mo_smallDeterminant_140 ?_
              refine lv_iload hx hb d_Mo_smallDeterminant_141 (lv_at hl 5 rfl) ?_
              refine lv_iadd hx hb d_Mo_smallDeterminant_143 ?_
              obtain ⟨g_35, h⟩ := ck_in_s h
              refine va_iald hx hb hK hP 1 0 rfl rfl g_35 d_Mo_smallDeterminant_144 ?_
              obtain ⟨g_36, h⟩ := ck_in_s h
              refine va_iast hx hb hK hP hD hS 1 0 rfl rfl g_36 d_Mo_smallDeterminant_145 (fun H locs hP hD hS => ?_)
              have hP : va_P (dC, dI) cl_all [(h_m, .inr (6, [.ref h_m_one, .ref h_m_two, .ref h_m_three, .ref h_m_four, .ref h_m_five, .ref h_m_six, .ref h_m_seven, .ref h_m_eight, .ref h_m_work, .ref h_m_small, .int m_rows, .int m_columns, .int m_prime, .ref h_m_pivots, .ref h_m_freeRows, .ref h_m_freeColumns, .ref h_m_minor, .ref h_m_smallMinor, .ref h_m_fields, .ref h_m_rowCounts, .ref h_m_elements, .ref h_m_numbers, .ref h_m_known, .ref h_m_ranks, .ref h_m_rankOf, .ref h_m_signOf, .ref h_m_order, .ref h_m_sizes, .ref h_m_coefficients, .ref h_m_choices, .ref h_m_sorted])), (h_m_smallMinor, .inl (cI, m_smallMinor_n, .inl (upd w_31 ((6 * v3_5) + v4_30).toNatClampNeg (w_31 ((6 * v2_2) + v4_30).toNatClampNeg)))), (h_m_small, .inl (cI, m_small_n, .inl m_small)), (h_m_freeRows, .inl (cI, m_freeRows_n, .inl m_freeRows)), (h_m_freeColumns, .inl (cI, m_freeColumns_n, .inl m_freeColumns))] H := hP
              have hD : va_D A [(h_m, .inr (6, [.ref h_m_one, .ref h_m_two, .ref h_m_three, .ref h_m_four, .ref h_m_five, .ref h_m_six, .ref h_m_seven, .ref h_m_eight, .ref h_m_work, .ref h_m_small, .int m_rows, .int m_columns, .int m_prime, .ref h_m_pivots, .ref h_m_freeRows, .ref h_m_freeColumns, .ref h_m_minor, .ref h_m_smallMinor, .ref h_m_fields, .ref h_m_rowCounts, .ref h_m_elements, .ref h_m_numbers, .ref h_m_known, .ref h_m_ranks, .ref h_m_rankOf, .ref h_m_signOf, .ref h_m_order, .ref h_m_sizes, .ref h_m_coefficients, .ref h_m_choices, .ref h_m_sorted])), (h_m_smallMinor, .inl (cI, m_smallMinor_n, .inl (upd w_31 ((6 * v3_5) + v4_30).toNatClampNeg (w_31 ((6 * v2_2) + v4_30).toNatClampNeg)))), (h_m_small, .inl (cI, m_small_n, .inl m_small)), (h_m_freeRows, .inl (cI, m_freeRows_n, .inl m_freeRows)), (h_m_freeColumns, .inl (cI, m_freeColumns_n, .inl m_freeColumns))] := hD
              refine lv_aload_n hx hb d_Mo_smallDeterminant_146 rfl (lv_at hl 1 rfl) ?_
              refine va_get (D := (dC, dI)) (ci := 6) (v := .ref h_m_smallMinor) (C := "BasisWalkModel") (T := T_Mo) (N := 31) hx hb hts iw1 hown hK hP 0 rfl rfl 17 (by decide) fl0 (fun _ h9 => h9) rfl d_Mo_smallDeterminant_147 ?_
              refine lv_bipush (v := 6) hx hb d_Mo_smallDeterminant_150 (by decide) ?_
              refine lv_iload_n hx hb d_Mo_smallDeterminant_152 rfl (lv_at hl 3 rfl) ?_
              refine lv_imul hx hb d_Mo_smallDeterminant_153 ?_
              refine lv_iload hx hb d_Mo_smallDeterminant_154 (lv_at hl 5 rfl) ?_
              refine lv_iadd hx hb d_Mo_smallDeterminant_156 ?_
              refine lv_iload hx hb d_Mo_smallDeterminant_157 (lv_at hl 0 rfl) ?_
              obtain ⟨g_37, h⟩ := ck_in_s h
              refine va_iast hx hb hK hP hD hS 1 0 rfl rfl g_37 d_Mo_smallDeterminant_159 (fun H locs hP hD hS => ?_)
              have hP : va_P (dC, dI) cl_all [(h_m, .inr (6, [.ref h_m_one, .ref h_m_two, .ref h_m_three, .ref h_m_four, .ref h_m_five, .ref h_m_six, .ref h_m_seven, .ref h_m_eight, .ref h_m_work, .ref h_m_small, .int m_rows, .int m_columns, .int m_prime, .ref h_m_pivots, .ref h_m_freeRows, .ref h_m_freeColumns, .ref h_m_minor, .ref h_m_smallMinor, .ref h_m_fields, .ref h_m_rowCounts, .ref h_m_elements, .ref h_m_numbers, .ref h_m_known, .ref h_m_ranks, .ref h_m_rankOf, .ref h_m_signOf, .ref h_m_order, .ref h_m_sizes, .ref h_m_coefficients, .ref h_m_choices, .ref h_m_sorted])), (h_m_smallMinor, .inl (cI, m_smallMinor_n, .inl (upd (upd w_31 ((6 * v3_5) + v4_30).toNatClampNeg (w_31 ((6 * v2_2) + v4_30).toNatClampNeg)) ((6 * v2_2) + v4_30).toNatClampNeg x_34))), (h_m_small, .inl (cI, m_small_n, .inl m_small)), (h_m_freeRows, .inl (cI, m_freeRows_n, .inl m_freeRows)), (h_m_freeColumns, .inl (cI, m_freeColumns_n, .inl m_freeColumns))] H := hP
              have hD : va_D A [(h_m, .inr (6, [.ref h_m_one, .ref h_m_two, .ref h_m_three, .ref h_m_four, .ref h_m_five, .ref h_m_six, .ref h_m_seven, .ref h_m_eight, .ref h_m_work, .ref h_m_small, .int m_rows, .int m_columns, .int m_prime, .ref h_m_pivots, .ref h_m_freeRows, .ref h_m_freeColumns, .ref h_m_minor, .ref h_m_smallMinor, .ref h_m_fields, .ref h_m_rowCounts, .ref h_m_elements, .ref h_m_numbers, .ref h_m_known, .ref h_m_ranks, .ref h_m_rankOf, .ref h_m_signOf, .ref h_m_order, .ref h_m_sizes, .ref h_m_coefficients, .ref h_m_choices, .ref h_m_sorted])), (h_m_smallMinor, .inl (cI, m_smallMinor_n, .inl (upd (upd w_31 ((6 * v3_5) + v4_30).toNatClampNeg (w_31 ((6 * v2_2) + v4_30).toNatClampNeg)) ((6 * v2_2) + v4_30).toNatClampNeg x_34))), (h_m_small, .inl (cI, m_small_n, .inl m_small)), (h_m_freeRows, .inl (cI, m_freeRows_n, .inl m_freeRows)), (h_m_freeColumns, .inl (cI, m_freeColumns_n, .inl m_freeColumns))] := hD
              obtain ⟨x_38, ex_38⟩ : ∃ y : Int32, y = v4_30 + 1 := ⟨_, rfl⟩
              replace h := ck_nm_s h ex_38
              refine lv_iinc (v := x_38) (lv' := [(4, .int x_38), (5, .int x_34), (0, .ref h_m), (1, .int n0), (2, .int v2_2), (3, .int v3_5)]) hx hb d_Mo_smallDeterminant_160 hl (k := 5) rfl (by rw [ex_38]; rfl) (by decide) rfl (fun ls hl => ?_)
              refine lv_goto (tgt := 102) hx hb d_Mo_smallDeterminant_163 (by decide) ?_
              exact J_102 _ _ h _ _ hP hD hS _ (lv_sub hl [2, 3, 4, 5, 0] rfl)
        · replace h := ck_if_t h c_6
          refine lv_iconst (v := 0) hx hb d_Mo_smallDeterminant_97 (by decide) ?_
          obtain rfl := Option.some.inj h
          subst hQ
          exact W.iret (v := 0) hx hb hr (fun t ht hW => ⟨⟨0, w_3, rfl, rfl, by rw [ht]; exact hP, va_K.moved hW.alike hK, hD⟩, hS.F ht⟩) hS.2.2 d_Mo_smallDeterminant_98
      · intro k_92 J_92 h
        refine lo1_W (r := r) (fun (v3_39 : Int32) => ∀ (H : Heap) (locs : List Loc), va_P (dC, dI) cl_all [(h_m, .inr (6, [.ref h_m_one, .ref h_m_two, .ref h_m_three, .ref h_m_four, .ref h_m_five, .ref h_m_six, .ref h_m_seven, .ref h_m_eight, .ref h_m_work, .ref h_m_small, .int m_rows, .int m_columns, .int m_prime, .ref h_m_pivots, .ref h_m_freeRows, .ref h_m_freeColumns, .ref h_m_minor, .ref h_m_smallMinor, .ref h_m_fields, .ref h_m_rowCounts, .ref h_m_elements, .ref h_m_numbers, .ref h_m_known, .ref h_m_ranks, .ref h_m_rankOf, .ref h_m_signOf, .ref h_m_order, .ref h_m_sizes, .ref h_m_coefficients, .ref h_m_choices, .ref h_m_sorted])), (h_m_smallMinor, .inl (cI, m_smallMinor_n, .inl w_3)), (h_m_small, .inl (cI, m_small_n, .inl m_small)), (h_m_freeRows, .inl (cI, m_freeRows_n, .inl m_freeRows)), (h_m_freeColumns, .inl (cI, m_freeColumns_n, .inl m_freeColumns))] H → va_D A [(h_m, .inr (6, [.ref h_m_one, .ref h_m_two, .ref h_m_three, .ref h_m_four, .ref h_m_five, .ref h_m_six, .ref h_m_seven, .ref h_m_eight, .ref h_m_work, .ref h_m_small, .int m_rows, .int m_columns, .int m_prime, .ref h_m_pivots, .ref h_m_freeRows, .ref h_m_freeColumns, .ref h_m_minor, .ref h_m_smallMinor, .ref h_m_fields, .ref h_m_rowCounts, .ref h_m_elements, .ref h_m_numbers, .ref h_m_known, .ref h_m_ranks, .ref h_m_rankOf, .ref h_m_signOf, .ref h_m_order, .ref h_m_sizes, .ref h_m_coefficients, .ref h_m_choices, .ref h_m_sorted])), (h_m_smallMinor, .inl (cI, m_smallMinor_n, .inl w_3)), (h_m_small, .inl (cI, m_small_n, .inl m_small)), (h_m_freeRows, .inl (cI, m_freeRows_n, .inl m_freeRows)), (h_m_freeColumns, .inl (cI, m_freeColumns_n, .inl m_freeColumns))] → va_S A s.heap H locs → ∀ ls : Array Slot, lv_has ls 8 [(0, .ref h_m), (1, .int n0), (2, .int v2_2), (3, .int v3_39)] → W p l e ({ frames := 1, cells := 0, slots := 0, locals := 22 } : Room) s m AR below meth c H locs 0 0 QQ (F0 m 67 ls [])) ?_ _ _ h _ _ hP hD hS _ (lv_sub hl [1, 2, 3, 0] rfl)
        intro k_67 v3_39 J_67 h H locs hP hD hS ls hl
        refine lv_iload_n hx hb d_Mo_smallDeterminant_67 rfl (lv_at hl 3 rfl) ?_
        refine lv_iload_n hx hb d_Mo_smallDeterminant_68 rfl (lv_at hl 1 rfl) ?_
        refine lv_icmp_ge (tgt := 92) hx hb d_Mo_smallDeterminant_69 (by decide) (fun c_40 => ?_) (fun c_40 => ?_)
        · replace h := ck_if_t h c_40
          exact J_92 _ h _ _ hP hD hS _ (lv_sub hl [0, 1, 2, 3] rfl)
        · replace h := ck_if_f h c_40
          refine lv_aload_n hx hb d_Mo_smallDeterminant_72 rfl (lv_at hl 0 rfl) ?_
          refine va_get (D := (dC, dI)) (ci := 6) (v := .ref h_m_smallMinor) (C := "BasisWalkModel") (T := T_Mo) (N := 31) hx hb hts iw1 hown hK hP 0 rfl rfl 17 (by decide) fl0 (fun _ h9 => h9) rfl d_Mo_smallDeterminant_73 ?_
          refine lv_bipush (v := 6) hx hb d_Mo_smallDeterminant_76 (by decide) ?_
          refine lv_iload_n hx hb d_Mo_smallDeterminant_78 rfl (lv_at hl 3 rfl) ?_
          refine lv_imul hx hb d_Mo_smallDeterminant_79 ?_
          refine lv_iload_n hx hb d_Mo_smallDeterminant_80 rfl (lv_at hl 2 rfl) ?_
          refine lv_iadd hx hb d_Mo_smallDeterminant_81 ?_
          obtain ⟨g_41, h⟩ := ck_in_s h
          refine va_iald hx hb hK hP 1 0 rfl rfl g_41 d_Mo_smallDeterminant_82 ?_
          refine lv_if_ne (tgt := 92) hx hb d_Mo_smallDeterminant_83 (by decide) (fun c_42 => ?_) (fun c_42 => ?_)
          · replace h := ck_if_f h c_42
            exact J_92 _ h _ _ hP hD hS _ (lv_sub hl [0, 1, 2, 3] rfl)
          · replace h := ck_if_t h c_42
            obtain ⟨x_43, ex_43⟩ : ∃ y : Int32, y = v3_39 + 1 := ⟨_, rfl⟩
            replace h := ck_nm_s h ex_43
            refine lv_iinc (v := x_43) (lv' := [(3, .int x_43), (0, .ref h_m), (1, .int n0), (2, .int v2_2)]) hx hb d_Mo_smallDeterminant_86 hl (k := 3) rfl (by rw [ex_43]; rfl) (by decide) rfl (fun ls hl => ?_)
            refine lv_goto (tgt := 67) hx hb d_Mo_smallDeterminant_89 (by decide) ?_
            exact J_67 _ h _ _ hP hD hS _ (lv_sub hl [1, 2, 3, 0] rfl)
  · intro k_58 J_58 h
    refine lo2_W (r := r) (fun (v2_44 : Int32) (w_45 : Nat → Int32) => ∀ (H : Heap) (locs : List Loc), va_P (dC, dI) cl_all [(h_m, .inr (6, [.ref h_m_one, .ref h_m_two, .ref h_m_three, .ref h_m_four, .ref h_m_five, .ref h_m_six, .ref h_m_seven, .ref h_m_eight, .ref h_m_work, .ref h_m_small, .int m_rows, .int m_columns, .int m_prime, .ref h_m_pivots, .ref h_m_freeRows, .ref h_m_freeColumns, .ref h_m_minor, .ref h_m_smallMinor, .ref h_m_fields, .ref h_m_rowCounts, .ref h_m_elements, .ref h_m_numbers, .ref h_m_known, .ref h_m_ranks, .ref h_m_rankOf, .ref h_m_signOf, .ref h_m_order, .ref h_m_sizes, .ref h_m_coefficients, .ref h_m_choices, .ref h_m_sorted])), (h_m_smallMinor, .inl (cI, m_smallMinor_n, .inl w_45)), (h_m_small, .inl (cI, m_small_n, .inl m_small)), (h_m_freeRows, .inl (cI, m_freeRows_n, .inl m_freeRows)), (h_m_freeColumns, .inl (cI, m_freeColumns_n, .inl m_freeColumns))] H → va_D A [(h_m, .inr (6, [.ref h_m_one, .ref h_m_two, .ref h_m_three, .ref h_m_four, .ref h_m_five, .ref h_m_six, .ref h_m_seven, .ref h_m_eight, .ref h_m_work, .ref h_m_small, .int m_rows, .int m_columns, .int m_prime, .ref h_m_pivots, .ref h_m_freeRows, .ref h_m_freeColumns, .ref h_m_minor, .ref h_m_smallMinor, .ref h_m_fields, .ref h_m_rowCounts, .ref h_m_elements, .ref h_m_numbers, .ref h_m_known, .ref h_m_ranks, .ref h_m_rankOf, .ref h_m_signOf, .ref h_m_order, .ref h_m_sizes, .ref h_m_coefficients, .ref h_m_choices, .ref h_m_sorted])), (h_m_smallMinor, .inl (cI, m_smallMinor_n, .inl w_45)), (h_m_small, .inl (cI, m_small_n, .inl m_small)), (h_m_freeRows, .inl (cI, m_freeRows_n, .inl m_freeRows)), (h_m_freeColumns, .inl (cI, m_freeColumns_n, .inl m_freeColumns))] → va_S A s.heap H locs → ∀ ls : Array Slot, lv_has ls 8 [(0, .ref h_m), (1, .int n0), (2, .int v2_44)] → W p l e ({ frames := 1, cells := 0, slots := 0, locals := 22 } : Room) s m AR below meth c H locs 0 0 QQ (F0 m 2 ls [])) ?_ _ _ _ h _ _ hP hD hS _ (lv_sub hl [1, 2, 0] rfl)
    intro k_2 v2_44 w_45 J_2 h H locs hP hD hS ls hl
    refine lv_iload_n hx hb d_Mo_smallDeterminant_2 rfl (lv_at hl 2 rfl) ?_
    refine lv_iload_n hx hb d_Mo_smallDeterminant_3 rfl (lv_at hl 1 rfl) ?_
    refine lv_icmp_ge (tgt := 58) hx hb d_Mo_smallDeterminant_4 (by decide) (fun c_46 => ?_) (fun c_46 => ?_)
    · replace h := ck_if_t h c_46
      exact J_58 _ h _ _ hP hD hS _ (lv_sub hl [0, 1] rfl)
    · replace h := ck_if_f h c_46
      refine lv_iconst (v := 0) hx hb d_Mo_smallDeterminant_7 (by decide) ?_
      refine lv_istore_n (lv' := [(3, .int 0), (0, .ref h_m), (1, .int n0), (2, .int v2_44)]) hx hb d_Mo_smallDeterminant_8 rfl hl (by decide) rfl (fun ls hl => ?_)
      refine ck_jn_W h (fun k' => ∀ (w_47 : Nat → Int32), k' w_47 = some r → ∀ (H : Heap) (locs : List Loc), va_P (dC, dI) cl_all [(h_m, .inr (6, [.ref h_m_one, .ref h_m_two, .ref h_m_three, .ref h_m_four, .ref h_m_five, .ref h_m_six, .ref h_m_seven, .ref h_m_eight, .ref h_m_work, .ref h_m_small, .int m_rows, .int m_columns, .int m_prime, .ref h_m_pivots, .ref h_m_freeRows, .ref h_m_freeColumns, .ref h_m_minor, .ref h_m_smallMinor, .ref h_m_fields, .ref h_m_rowCounts, .ref h_m_elements, .ref h_m_numbers, .ref h_m_known, .ref h_m_ranks, .ref h_m_rankOf, .ref h_m_signOf, .ref h_m_order, .ref h_m_sizes, .ref h_m_coefficients, .ref h_m_choices, .ref h_m_sorted])), (h_m_smallMinor, .inl (cI, m_smallMinor_n, .inl w_47)), (h_m_small, .inl (cI, m_small_n, .inl m_small)), (h_m_freeRows, .inl (cI, m_freeRows_n, .inl m_freeRows)), (h_m_freeColumns, .inl (cI, m_freeColumns_n, .inl m_freeColumns))] H → va_D A [(h_m, .inr (6, [.ref h_m_one, .ref h_m_two, .ref h_m_three, .ref h_m_four, .ref h_m_five, .ref h_m_six, .ref h_m_seven, .ref h_m_eight, .ref h_m_work, .ref h_m_small, .int m_rows, .int m_columns, .int m_prime, .ref h_m_pivots, .ref h_m_freeRows, .ref h_m_freeColumns, .ref h_m_minor, .ref h_m_smallMinor, .ref h_m_fields, .ref h_m_rowCounts, .ref h_m_elements, .ref h_m_numbers, .ref h_m_known, .ref h_m_ranks, .ref h_m_rankOf, .ref h_m_signOf, .ref h_m_order, .ref h_m_sizes, .ref h_m_coefficients, .ref h_m_choices, .ref h_m_sorted])), (h_m_smallMinor, .inl (cI, m_smallMinor_n, .inl w_47)), (h_m_small, .inl (cI, m_small_n, .inl m_small)), (h_m_freeRows, .inl (cI, m_freeRows_n, .inl m_freeRows)), (h_m_freeColumns, .inl (cI, m_freeColumns_n, .inl m_freeColumns))] → va_S A s.heap H locs → ∀ ls : Array Slot, lv_has ls 8 [(0, .ref h_m), (1, .int n0), (2, .int v2_44)] → W p l e ({ frames := 1, cells := 0, slots := 0, locals := 22 } : Room) s m AR below meth c H locs 0 0 QQ (F0 m 52 ls [])) ?_ ?_
      · intro w_47 h H locs hP hD hS ls hl
        obtain ⟨x_48, ex_48⟩ : ∃ y : Int32, y = v2_44 + 1 := ⟨_, rfl⟩
        replace h := ck_nm_s h ex_48
        refine lv_iinc (v := x_48) (lv' := [(2, .int x_48), (0, .ref h_m), (1, .int n0)]) hx hb d_Mo_smallDeterminant_52 hl (k := 2) rfl (by rw [ex_48]; rfl) (by decide) rfl (fun ls hl => ?_)
        refine lv_goto (tgt := 2) hx hb d_Mo_smallDeterminant_55 (by decide) ?_
        exact J_2 _ _ h _ _ hP hD hS _ (lv_sub hl [1, 2, 0] rfl)
      · intro k_52 J_52 h
        refine lo2_W (r := r) (fun (v3_49 : Int32) (w_50 : Nat → Int32) => ∀ (H : Heap) (locs : List Loc), va_P (dC, dI) cl_all [(h_m, .inr (6, [.ref h_m_one, .ref h_m_two, .ref h_m_three, .ref h_m_four, .ref h_m_five, .ref h_m_six, .ref h_m_seven, .ref h_m_eight, .ref h_m_work, .ref h_m_small, .int m_rows, .int m_columns, .int m_prime, .ref h_m_pivots, .ref h_m_freeRows, .ref h_m_freeColumns, .ref h_m_minor, .ref h_m_smallMinor, .ref h_m_fields, .ref h_m_rowCounts, .ref h_m_elements, .ref h_m_numbers, .ref h_m_known, .ref h_m_ranks, .ref h_m_rankOf, .ref h_m_signOf, .ref h_m_order, .ref h_m_sizes, .ref h_m_coefficients, .ref h_m_choices, .ref h_m_sorted])), (h_m_smallMinor, .inl (cI, m_smallMinor_n, .inl w_50)), (h_m_small, .inl (cI, m_small_n, .inl m_small)), (h_m_freeRows, .inl (cI, m_freeRows_n, .inl m_freeRows)), (h_m_freeColumns, .inl (cI, m_freeColumns_n, .inl m_freeColumns))] H → va_D A [(h_m, .inr (6, [.ref h_m_one, .ref h_m_two, .ref h_m_three, .ref h_m_four, .ref h_m_five, .ref h_m_six, .ref h_m_seven, .ref h_m_eight, .ref h_m_work, .ref h_m_small, .int m_rows, .int m_columns, .int m_prime, .ref h_m_pivots, .ref h_m_freeRows, .ref h_m_freeColumns, .ref h_m_minor, .ref h_m_smallMinor, .ref h_m_fields, .ref h_m_rowCounts, .ref h_m_elements, .ref h_m_numbers, .ref h_m_known, .ref h_m_ranks, .ref h_m_rankOf, .ref h_m_signOf, .ref h_m_order, .ref h_m_sizes, .ref h_m_coefficients, .ref h_m_choices, .ref h_m_sorted])), (h_m_smallMinor, .inl (cI, m_smallMinor_n, .inl w_50)), (h_m_small, .inl (cI, m_small_n, .inl m_small)), (h_m_freeRows, .inl (cI, m_freeRows_n, .inl m_freeRows)), (h_m_freeColumns, .inl (cI, m_freeColumns_n, .inl m_freeColumns))] → va_S A s.heap H locs → ∀ ls : Array Slot, lv_has ls 8 [(0, .ref h_m), (1, .int n0), (2, .int v2_44), (3, .int v3_49)] → W p l e ({ frames := 1, cells := 0, slots := 0, locals := 22 } : Room) s m AR below meth c H locs 0 0 QQ (F0 m 9 ls [])) ?_ _ _ _ h _ _ hP hD hS _ (lv_sub hl [1, 2, 3, 0] rfl)
        intro k_9 v3_49 w_50 J_9 h H locs hP hD hS ls hl
        refine lv_iload_n hx hb d_Mo_smallDeterminant_9 rfl (lv_at hl 3 rfl) ?_
        refine lv_iload_n hx hb d_Mo_smallDeterminant_10 rfl (lv_at hl 1 rfl) ?_
        refine lv_icmp_ge (tgt := 52) hx hb d_Mo_smallDeterminant_11 (by decide) (fun c_51 => ?_) (fun c_51 => ?_)
        · replace h := ck_if_t h c_51
          exact J_52 _ h _ _ hP hD hS _ (lv_sub hl [0, 1, 2] rfl)
        · replace h := ck_if_f h c_51
          refine lv_aload_n hx hb d_Mo_smallDeterminant_14 rfl (lv_at hl 0 rfl) ?_
          refine va_get (D := (dC, dI)) (ci := 6) (v := .ref h_m_smallMinor) (C := "BasisWalkModel") (T := T_Mo) (N := 31) hx hb hts iw1 hown hK hP 0 rfl rfl 17 (by decide) fl0 (fun _ h9 => h9) rfl d_Mo_smallDeterminant_15 ?_
          refine lv_bipush (v := 6) hx hb d_Mo_smallDeterminant_18 (by decide) ?_
          refine lv_iload_n hx hb d_Mo_smallDeterminant_20 rfl (lv_at hl 2 rfl) ?_
          refine lv_imul hx hb d_Mo_smallDeterminant_21 ?_
          refine lv_iload_n hx hb d_Mo_smallDeterminant_22 rfl (lv_at hl 3 rfl) ?_
          refine lv_iadd hx hb d_Mo_smallDeterminant_23 ?_
          refine lv_aload_n hx hb d_Mo_smallDeterminant_24 rfl (lv_at hl 0 rfl) ?_
          refine va_get (D := (dC, dI)) (ci := 6) (v := .ref h_m_small) (C := "BasisWalkModel") (T := T_Mo) (N := 31) hx hb hts iw1 hown hK hP 0 rfl rfl 9 (by decide) fl3 (fun _ h9 => h9) rfl d_Mo_smallDeterminant_25 ?_
          refine lv_bipush (v := 12) hx hb d_Mo_smallDeterminant_28 (by decide) ?_
          refine lv_aload_n hx hb d_Mo_smallDeterminant_30 rfl (lv_at hl 0 rfl) ?_
          refine va_get (D := (dC, dI)) (ci := 6) (v := .ref h_m_freeRows) (C := "BasisWalkModel") (T := T_Mo) (N := 31) hx hb hts iw1 hown hK hP 0 rfl rfl 14 (by decide) fl4 (fun _ h9 => h9) rfl d_Mo_smallDeterminant_31 ?_
          refine lv_iload_n hx hb d_Mo_smallDeterminant_34 rfl (lv_at hl 2 rfl) ?_
          obtain ⟨g_52, h⟩ := ck_in_s h
          refine va_iald hx hb hK hP 3 0 rfl rfl g_52 d_Mo_smallDeterminant_35 ?_
          refine lv_imul hx hb d_Mo_smallDeterminant_36 ?_
          refine lv_aload_n hx hb d_Mo_smallDeterminant_37 rfl (lv_at hl 0 rfl) ?_
          refine va_get (D := (dC, dI)) (ci := 6) (v := .ref h_m_freeColumns) (C := "BasisWalkModel") (T := T_Mo) (N := 31) hx hb hts iw1 hown hK hP 0 rfl rfl 15 (by decide) fl5 (fun _ h9 => h9) rfl d_Mo_smallDeterminant_38 ?_
          refine lv_iload_n hx hb d_Mo_smallDeterminant_41 rfl (lv_at hl 3 rfl) ?_
          obtain ⟨g_53, h⟩ := ck_in_s h
          refine va_iald hx hb hK hP 4 0 rfl rfl g_53 d_Mo_smallDeterminant_42 ?_
          refine lv_iadd hx hb d_Mo_smallDeterminant_43 ?_
          obtain ⟨g_54, h⟩ := ck_in_s h
          refine va_iald hx hb hK hP 2 0 rfl rfl g_54 d_Mo_smallDeterminant_44 ?_
          obtain ⟨g_55, h⟩ := ck_in_s h
          refine va_iast hx hb hK hP hD hS 1 0 rfl rfl g_55 d_Mo_smallDeterminant_45 (fun H locs hP hD hS => ?_)
          have hP : va_P (dC, dI) cl_all [(h_m, .inr (6, [.ref h_m_one, .ref h_m_two, .ref h_m_three, .ref h_m_four, .ref h_m_five, .ref h_m_six, .ref h_m_seven, .ref h_m_eight, .ref h_m_work, .ref h_m_small, .int m_rows, .int m_columns, .int m_prime, .ref h_m_pivots, .ref h_m_freeRows, .ref h_m_freeColumns, .ref h_m_minor, .ref h_m_smallMinor, .ref h_m_fields, .ref h_m_rowCounts, .ref h_m_elements, .ref h_m_numbers, .ref h_m_known, .ref h_m_ranks, .ref h_m_rankOf, .ref h_m_signOf, .ref h_m_order, .ref h_m_sizes, .ref h_m_coefficients, .ref h_m_choices, .ref h_m_sorted])), (h_m_smallMinor, .inl (cI, m_smallMinor_n, .inl (upd w_50 ((6 * v2_44) + v3_49).toNatClampNeg (m_small ((12 * (m_freeRows v2_44.toNatClampNeg)) + (m_freeColumns v3_49.toNatClampNeg)).toNatClampNeg)))), (h_m_small, .inl (cI, m_small_n, .inl m_small)), (h_m_freeRows, .inl (cI, m_freeRows_n, .inl m_freeRows)), (h_m_freeColumns, .inl (cI, m_freeColumns_n, .inl m_freeColumns))] H := hP
          have hD : va_D A [(h_m, .inr (6, [.ref h_m_one, .ref h_m_two, .ref h_m_three, .ref h_m_four, .ref h_m_five, .ref h_m_six, .ref h_m_seven, .ref h_m_eight, .ref h_m_work, .ref h_m_small, .int m_rows, .int m_columns, .int m_prime, .ref h_m_pivots, .ref h_m_freeRows, .ref h_m_freeColumns, .ref h_m_minor, .ref h_m_smallMinor, .ref h_m_fields, .ref h_m_rowCounts, .ref h_m_elements, .ref h_m_numbers, .ref h_m_known, .ref h_m_ranks, .ref h_m_rankOf, .ref h_m_signOf, .ref h_m_order, .ref h_m_sizes, .ref h_m_coefficients, .ref h_m_choices, .ref h_m_sorted])), (h_m_smallMinor, .inl (cI, m_smallMinor_n, .inl (upd w_50 ((6 * v2_44) + v3_49).toNatClampNeg (m_small ((12 * (m_freeRows v2_44.toNatClampNeg)) + (m_freeColumns v3_49.toNatClampNeg)).toNatClampNeg)))), (h_m_small, .inl (cI, m_small_n, .inl m_small)), (h_m_freeRows, .inl (cI, m_freeRows_n, .inl m_freeRows)), (h_m_freeColumns, .inl (cI, m_freeColumns_n, .inl m_freeColumns))] := hD
          obtain ⟨x_56, ex_56⟩ : ∃ y : Int32, y = v3_49 + 1 := ⟨_, rfl⟩
          replace h := ck_nm_s h ex_56
          refine lv_iinc (v := x_56) (lv' := [(3, .int x_56), (0, .ref h_m), (1, .int n0), (2, .int v2_44)]) hx hb d_Mo_smallDeterminant_46 hl (k := 3) rfl (by rw [ex_56]; rfl) (by decide) rfl (fun ls hl => ?_)
          refine lv_goto (tgt := 9) hx hb d_Mo_smallDeterminant_49 (by decide) ?_
          exact J_9 _ _ h _ _ hP hD hS _ (lv_sub hl [1, 2, 3, 0] rfl)
theorem d_Mo_r_0 : decode prog_7_method_26_code 0 = .ok (.aload_n 0, 1) := by decide +kernel
theorem d_Mo_r_1 : decode prog_7_method_26_code 1 = .ok (.getfield 172, 3) := by decide +kernel
theorem d_Mo_r_4 : decode prog_7_method_26_code 4 = .ok (.sipush 4096, 3) := by decide +kernel
theorem d_Mo_r_7 : decode prog_7_method_26_code 7 = .ok (.iload_n 1, 1) := by decide +kernel
theorem d_Mo_r_8 : decode prog_7_method_26_code 8 = .ok (.imul, 1) := by decide +kernel
theorem d_Mo_r_9 : decode prog_7_method_26_code 9 = .ok (.iload_n 2, 1) := by decide +kernel
theorem d_Mo_r_10 : decode prog_7_method_26_code 10 = .ok (.iadd, 1) := by decide +kernel
theorem d_Mo_r_11 : decode prog_7_method_26_code 11 = .ok (.baload, 1) := by decide +kernel
theorem d_Mo_r_12 : decode prog_7_method_26_code 12 = .ok (.ireturn, 1) := by decide +kernel
def f_R_r (m_rankOf_n : Nat) (m_rankOf : Nat → Int32) (k0 : Int32) (set0 : Int32) : Option (Int32) :=
  ck_in ((4096 * k0) + set0) m_rankOf_n <| some (m_rankOf ((4096 * k0) + set0).toNatClampNeg)
set_option maxHeartbeats 4000000 in
set_option maxRecDepth 100000 in
theorem c_R_r (l : Launch) (dC : Nat → ClassId) (dI : Nat → Nat → Nat) (cI cJ cB cZ cT cN : ClassId) (sz : Nat) (h_m : Nat) (h_m_one : Nat) (h_m_two : Nat) (h_m_three : Nat) (h_m_four : Nat) (h_m_five : Nat) (h_m_six : Nat) (h_m_seven : Nat) (h_m_eight : Nat) (h_m_work : Nat) (h_m_small : Nat) (h_m_pivots : Nat) (h_m_freeRows : Nat) (h_m_freeColumns : Nat) (h_m_minor : Nat) (h_m_smallMinor : Nat) (h_m_fields : Nat) (h_m_rowCounts : Nat) (h_m_elements : Nat) (h_m_numbers : Nat) (h_m_known : Nat) (h_m_ranks : Nat) (h_m_rankOf : Nat) (h_m_signOf : Nat) (h_m_order : Nat) (h_m_sizes : Nat) (h_m_coefficients : Nat) (h_m_choices : Nat) (h_m_sorted : Nat) (m_rows : Int32) (m_columns : Int32) (m_prime : Int32) (m_rankOf_n : Nat) (m_rankOf : Nat → Int32) (k0 : Int32) (set0 : Int32) (r : Int32) (h : f_R_r m_rankOf_n m_rankOf k0 set0 = some r) : Met l y_Mo_r w_Mo_r ({ frames := 0, cells := 0, slots := 0, locals := 0 } : Room) (va_Pc [.ref h_m, .int k0, .int set0] (fun U => U.heap.size = sz ∧ va_P (dC, dI) cl_all [(h_m, .inr (6, [.ref h_m_one, .ref h_m_two, .ref h_m_three, .ref h_m_four, .ref h_m_five, .ref h_m_six, .ref h_m_seven, .ref h_m_eight, .ref h_m_work, .ref h_m_small, .int m_rows, .int m_columns, .int m_prime, .ref h_m_pivots, .ref h_m_freeRows, .ref h_m_freeColumns, .ref h_m_minor, .ref h_m_smallMinor, .ref h_m_fields, .ref h_m_rowCounts, .ref h_m_elements, .ref h_m_numbers, .ref h_m_known, .ref h_m_ranks, .ref h_m_rankOf, .ref h_m_signOf, .ref h_m_order, .ref h_m_sizes, .ref h_m_coefficients, .ref h_m_choices, .ref h_m_sorted])), (h_m_rankOf, .inl (cB, m_rankOf_n, .inl m_rankOf))] U.heap ∧ va_K (dC, dI) cl_all [(cI, .int), (cJ, .long), (cB, .byte), (cZ, .boolean), (cT, .object "BasisWalk$Table"), (cN, .object "BasisWalkModel$Num")] U ∧ NW U ∧ va_D (fun _ => True) [(h_m, .inr (6, [.ref h_m_one, .ref h_m_two, .ref h_m_three, .ref h_m_four, .ref h_m_five, .ref h_m_six, .ref h_m_seven, .ref h_m_eight, .ref h_m_work, .ref h_m_small, .int m_rows, .int m_columns, .int m_prime, .ref h_m_pivots, .ref h_m_freeRows, .ref h_m_freeColumns, .ref h_m_minor, .ref h_m_smallMinor, .ref h_m_fields, .ref h_m_rowCounts, .ref h_m_elements, .ref h_m_numbers, .ref h_m_known, .ref h_m_ranks, .ref h_m_rankOf, .ref h_m_signOf, .ref h_m_order, .ref h_m_sizes, .ref h_m_coefficients, .ref h_m_choices, .ref h_m_sorted])), (h_m_rankOf, .inl (cB, m_rankOf_n, .inl m_rankOf))])) (va_Qi (fun (v : Int32) (_ : Unit) => v = r) (fun (u : Unit) (t : State) => va_P (dC, dI) cl_all [(h_m, .inr (6, [.ref h_m_one, .ref h_m_two, .ref h_m_three, .ref h_m_four, .ref h_m_five, .ref h_m_six, .ref h_m_seven, .ref h_m_eight, .ref h_m_work, .ref h_m_small, .int m_rows, .int m_columns, .int m_prime, .ref h_m_pivots, .ref h_m_freeRows, .ref h_m_freeColumns, .ref h_m_minor, .ref h_m_smallMinor, .ref h_m_fields, .ref h_m_rowCounts, .ref h_m_elements, .ref h_m_numbers, .ref h_m_known, .ref h_m_ranks, .ref h_m_rankOf, .ref h_m_signOf, .ref h_m_order, .ref h_m_sizes, .ref h_m_coefficients, .ref h_m_choices, .ref h_m_sorted])), (h_m_rankOf, .inl (cB, m_rankOf_n, .inl m_rankOf))] t.heap ∧ va_K (dC, dI) cl_all [(cI, .int), (cJ, .long), (cB, .byte), (cZ, .boolean), (cT, .object "BasisWalk$Table"), (cN, .object "BasisWalkModel$Num")] t ∧ va_D (va_A [(h_m, .inr (6, [.ref h_m_one, .ref h_m_two, .ref h_m_three, .ref h_m_four, .ref h_m_five, .ref h_m_six, .ref h_m_seven, .ref h_m_eight, .ref h_m_work, .ref h_m_small, .int m_rows, .int m_columns, .int m_prime, .ref h_m_pivots, .ref h_m_freeRows, .ref h_m_freeColumns, .ref h_m_minor, .ref h_m_smallMinor, .ref h_m_fields, .ref h_m_rowCounts, .ref h_m_elements, .ref h_m_numbers, .ref h_m_known, .ref h_m_ranks, .ref h_m_rankOf, .ref h_m_signOf, .ref h_m_order, .ref h_m_sizes, .ref h_m_coefficients, .ref h_m_choices, .ref h_m_sorted])), (h_m_rankOf, .inl (cB, m_rankOf_n, .inl m_rankOf))] sz) [(h_m, .inr (6, [.ref h_m_one, .ref h_m_two, .ref h_m_three, .ref h_m_four, .ref h_m_five, .ref h_m_six, .ref h_m_seven, .ref h_m_eight, .ref h_m_work, .ref h_m_small, .int m_rows, .int m_columns, .int m_prime, .ref h_m_pivots, .ref h_m_freeRows, .ref h_m_freeColumns, .ref h_m_minor, .ref h_m_smallMinor, .ref h_m_fields, .ref h_m_rowCounts, .ref h_m_elements, .ref h_m_numbers, .ref h_m_known, .ref h_m_ranks, .ref h_m_rankOf, .ref h_m_signOf, .ref h_m_order, .ref h_m_sizes, .ref h_m_coefficients, .ref h_m_choices, .ref h_m_sorted])), (h_m_rankOf, .inl (cB, m_rankOf_n, .inl m_rankOf))]) (va_A [(h_m, .inr (6, [.ref h_m_one, .ref h_m_two, .ref h_m_three, .ref h_m_four, .ref h_m_five, .ref h_m_six, .ref h_m_seven, .ref h_m_eight, .ref h_m_work, .ref h_m_small, .int m_rows, .int m_columns, .int m_prime, .ref h_m_pivots, .ref h_m_freeRows, .ref h_m_freeColumns, .ref h_m_minor, .ref h_m_smallMinor, .ref h_m_fields, .ref h_m_rowCounts, .ref h_m_elements, .ref h_m_numbers, .ref h_m_known, .ref h_m_ranks, .ref h_m_rankOf, .ref h_m_signOf, .ref h_m_order, .ref h_m_sizes, .ref h_m_coefficients, .ref h_m_choices, .ref h_m_sorted])), (h_m_rankOf, .inl (cB, m_rankOf_n, .inl m_rankOf))] sz)) 0 0 (va_A [(h_m, .inr (6, [.ref h_m_one, .ref h_m_two, .ref h_m_three, .ref h_m_four, .ref h_m_five, .ref h_m_six, .ref h_m_seven, .ref h_m_eight, .ref h_m_work, .ref h_m_small, .int m_rows, .int m_columns, .int m_prime, .ref h_m_pivots, .ref h_m_freeRows, .ref h_m_freeColumns, .ref h_m_minor, .ref h_m_smallMinor, .ref h_m_fields, .ref h_m_rowCounts, .ref h_m_elements, .ref h_m_numbers, .ref h_m_known, .ref h_m_ranks, .ref h_m_rankOf, .ref h_m_signOf, .ref h_m_order, .ref h_m_sizes, .ref h_m_coefficients, .ref h_m_choices, .ref h_m_sorted])), (h_m_rankOf, .inl (cB, m_rankOf_n, .inl m_rankOf))] sz) := by
  refine Met.ofW (cc := prog_7_method_26_code) (maxL := 3) (ret := (Option.some Jvm.ClassFile.FieldType.int)) (by decide) rfl ?_
  intro p e s m args below meth c s₁ B hml hv
  obtain ⟨hAR, hsz, hP, hK, hN, hD0⟩ := hv
  have hx := B.exec
  have hb := B.bytes
  have hr := B.returns
  have hts := atoms_spec (ws := w_Mo_r) B.pre
  have hown : s.vm.findClass "BasisWalkModel" = some m.cls := findClass_of_methodNamed B.named
  have hlocks := B.notSynchronized
  clear B
  subst hsz
  have hD := hD0.self (sz := s.heap.size)
  generalize hAe : va_A [(h_m, .inr (6, [.ref h_m_one, .ref h_m_two, .ref h_m_three, .ref h_m_four, .ref h_m_five, .ref h_m_six, .ref h_m_seven, .ref h_m_eight, .ref h_m_work, .ref h_m_small, .int m_rows, .int m_columns, .int m_prime, .ref h_m_pivots, .ref h_m_freeRows, .ref h_m_freeColumns, .ref h_m_minor, .ref h_m_smallMinor, .ref h_m_fields, .ref h_m_rowCounts, .ref h_m_elements, .ref h_m_numbers, .ref h_m_known, .ref h_m_ranks, .ref h_m_rankOf, .ref h_m_signOf, .ref h_m_order, .ref h_m_sizes, .ref h_m_coefficients, .ref h_m_choices, .ref h_m_sorted])), (h_m_rankOf, .inl (cB, m_rankOf_n, .inl m_rankOf))] s.heap.size = A at hD ⊢
  have hA : ∀ q : Nat, s.heap.size ≤ q → A q := fun q h => by rw [← hAe]; exact Or.inr h
  clear hAe hD0
  have hS : va_S A s.heap s.heap [] := va_S.rf
  have hl := lv_entry ([.ref h_m, .int k0, .int set0]) (n := 3) (Nat.le_of_ble_eq_true rfl)
  subst hAR
  rw [lg_entry_eq]
  generalize (lg_sl ([.ref h_m, .int k0, .int set0]) ++ List.replicate (3 - (lg_sl ([.ref h_m, .int k0, .int set0])).length) Slot.unset).toArray = ls at hl ⊢
  have hl : lv_has ls 3 [(0, .ref h_m), (1, .int k0), (2, .int set0)] := hl
  change W p l e ({ frames := 0, cells := 0, slots := 0, locals := 0 } : Room) s m _ below meth c s.heap [] 0 0 _ _
  generalize hARe : ([.ref h_m, .int k0, .int set0] : List Value).toArray = AR at hts ⊢
  clear hARe
  generalize hQ : MQ below _ AR s 0 0 A = QQ
  have fl0 := hts _ (List.mem_cons_of_mem _ tw_379)
  have iw1 := (fun w hw => List.mem_cons_of_mem _ (in_Mo w hw) : ∀ w ∈ u_ws "BasisWalkModel" T_Mo 31, w ∈ w_Mo_r)
  obtain ⟨H, hHe⟩ : ∃ H : Heap, H = s.heap := ⟨_, rfl⟩
  rw [← hHe] at hP ⊢
  replace hS : va_S A s.heap H [] := by rw [hHe]; exact va_S.rf
  clear hHe
  unfold f_R_r at h
  refine lv_aload_n hx hb d_Mo_r_0 rfl (lv_at hl 0 rfl) ?_
  refine va_get (D := (dC, dI)) (ci := 6) (v := .ref h_m_rankOf) (C := "BasisWalkModel") (T := T_Mo) (N := 31) hx hb hts iw1 hown hK hP 0 rfl rfl 24 (by decide) fl0 (fun _ h9 => h9) rfl d_Mo_r_1 ?_
  refine lv_sipush (v := 4096) hx hb d_Mo_r_4 (by decide) ?_
  refine lv_iload_n hx hb d_Mo_r_7 rfl (lv_at hl 1 rfl) ?_
  refine lv_imul hx hb d_Mo_r_8 ?_
  refine lv_iload_n hx hb d_Mo_r_9 rfl (lv_at hl 2 rfl) ?_
  refine lv_iadd hx hb d_Mo_r_10 ?_
  obtain ⟨g_1, h⟩ := ck_in_s h
  refine va_bald hx hb hK hP 1 2 rfl rfl g_1 d_Mo_r_11 ?_
  obtain rfl := Option.some.inj h
  subst hQ
  exact W.iret (v := (m_rankOf ((4096 * k0) + set0).toNatClampNeg)) hx hb hr (fun t ht hW => ⟨⟨(m_rankOf ((4096 * k0) + set0).toNatClampNeg), (), rfl, rfl, by rw [ht]; exact hP, va_K.moved hW.alike hK, hD⟩, hS.F ht⟩) hS.2.2 d_Mo_r_12
theorem d_Mo_whole_0 : decode prog_7_method_27_code 0 = .ok (.iconst 1, 1) := by decide +kernel
theorem d_Mo_whole_1 : decode prog_7_method_27_code 1 = .ok (.aload_n 0, 1) := by decide +kernel
theorem d_Mo_whole_2 : decode prog_7_method_27_code 2 = .ok (.getfield 159, 3) := by decide +kernel
theorem d_Mo_whole_5 : decode prog_7_method_27_code 5 = .ok (.iload_n 1, 1) := by decide +kernel
theorem d_Mo_whole_6 : decode prog_7_method_27_code 6 = .ok (.iaload, 1) := by decide +kernel
theorem d_Mo_whole_7 : decode prog_7_method_27_code 7 = .ok (.ishl, 1) := by decide +kernel
theorem d_Mo_whole_8 : decode prog_7_method_27_code 8 = .ok (.iconst 1, 1) := by decide +kernel
theorem d_Mo_whole_9 : decode prog_7_method_27_code 9 = .ok (.isub, 1) := by decide +kernel
theorem d_Mo_whole_10 : decode prog_7_method_27_code 10 = .ok (.ireturn, 1) := by decide +kernel
def f_R_whole (m_elements_n : Nat) (m_elements : Nat → Int32) (k0 : Int32) : Option (Int32) :=
  ck_in k0 m_elements_n <| some (((1 : Int32) <<< ((m_elements k0.toNatClampNeg) &&& 31)) - 1)
set_option maxHeartbeats 4000000 in
set_option maxRecDepth 100000 in
theorem c_R_whole (l : Launch) (dC : Nat → ClassId) (dI : Nat → Nat → Nat) (cI cJ cB cZ cT cN : ClassId) (sz : Nat) (h_m : Nat) (h_m_one : Nat) (h_m_two : Nat) (h_m_three : Nat) (h_m_four : Nat) (h_m_five : Nat) (h_m_six : Nat) (h_m_seven : Nat) (h_m_eight : Nat) (h_m_work : Nat) (h_m_small : Nat) (h_m_pivots : Nat) (h_m_freeRows : Nat) (h_m_freeColumns : Nat) (h_m_minor : Nat) (h_m_smallMinor : Nat) (h_m_fields : Nat) (h_m_rowCounts : Nat) (h_m_elements : Nat) (h_m_numbers : Nat) (h_m_known : Nat) (h_m_ranks : Nat) (h_m_rankOf : Nat) (h_m_signOf : Nat) (h_m_order : Nat) (h_m_sizes : Nat) (h_m_coefficients : Nat) (h_m_choices : Nat) (h_m_sorted : Nat) (m_rows : Int32) (m_columns : Int32) (m_prime : Int32) (m_elements_n : Nat) (m_elements : Nat → Int32) (k0 : Int32) (r : Int32) (h : f_R_whole m_elements_n m_elements k0 = some r) : Met l y_Mo_whole w_Mo_whole ({ frames := 0, cells := 0, slots := 0, locals := 0 } : Room) (va_Pc [.ref h_m, .int k0] (fun U => U.heap.size = sz ∧ va_P (dC, dI) cl_all [(h_m, .inr (6, [.ref h_m_one, .ref h_m_two, .ref h_m_three, .ref h_m_four, .ref h_m_five, .ref h_m_six, .ref h_m_seven, .ref h_m_eight, .ref h_m_work, .ref h_m_small, .int m_rows, .int m_columns, .int m_prime, .ref h_m_pivots, .ref h_m_freeRows, .ref h_m_freeColumns, .ref h_m_minor, .ref h_m_smallMinor, .ref h_m_fields, .ref h_m_rowCounts, .ref h_m_elements, .ref h_m_numbers, .ref h_m_known, .ref h_m_ranks, .ref h_m_rankOf, .ref h_m_signOf, .ref h_m_order, .ref h_m_sizes, .ref h_m_coefficients, .ref h_m_choices, .ref h_m_sorted])), (h_m_elements, .inl (cI, m_elements_n, .inl m_elements))] U.heap ∧ va_K (dC, dI) cl_all [(cI, .int), (cJ, .long), (cB, .byte), (cZ, .boolean), (cT, .object "BasisWalk$Table"), (cN, .object "BasisWalkModel$Num")] U ∧ NW U ∧ va_D (fun _ => True) [(h_m, .inr (6, [.ref h_m_one, .ref h_m_two, .ref h_m_three, .ref h_m_four, .ref h_m_five, .ref h_m_six, .ref h_m_seven, .ref h_m_eight, .ref h_m_work, .ref h_m_small, .int m_rows, .int m_columns, .int m_prime, .ref h_m_pivots, .ref h_m_freeRows, .ref h_m_freeColumns, .ref h_m_minor, .ref h_m_smallMinor, .ref h_m_fields, .ref h_m_rowCounts, .ref h_m_elements, .ref h_m_numbers, .ref h_m_known, .ref h_m_ranks, .ref h_m_rankOf, .ref h_m_signOf, .ref h_m_order, .ref h_m_sizes, .ref h_m_coefficients, .ref h_m_choices, .ref h_m_sorted])), (h_m_elements, .inl (cI, m_elements_n, .inl m_elements))])) (va_Qi (fun (v : Int32) (_ : Unit) => v = r) (fun (u : Unit) (t : State) => va_P (dC, dI) cl_all [(h_m, .inr (6, [.ref h_m_one, .ref h_m_two, .ref h_m_three, .ref h_m_four, .ref h_m_five, .ref h_m_six, .ref h_m_seven, .ref h_m_eight, .ref h_m_work, .ref h_m_small, .int m_rows, .int m_columns, .int m_prime, .ref h_m_pivots, .ref h_m_freeRows, .ref h_m_freeColumns, .ref h_m_minor, .ref h_m_smallMinor, .ref h_m_fields, .ref h_m_rowCounts, .ref h_m_elements, .ref h_m_numbers, .ref h_m_known, .ref h_m_ranks, .ref h_m_rankOf, .ref h_m_signOf, .ref h_m_order, .ref h_m_sizes, .ref h_m_coefficients, .ref h_m_choices, .ref h_m_sorted])), (h_m_elements, .inl (cI, m_elements_n, .inl m_elements))] t.heap ∧ va_K (dC, dI) cl_all [(cI, .int), (cJ, .long), (cB, .byte), (cZ, .boolean), (cT, .object "BasisWalk$Table"), (cN, .object "BasisWalkModel$Num")] t ∧ va_D (va_A [(h_m, .inr (6, [.ref h_m_one, .ref h_m_two, .ref h_m_three, .ref h_m_four, .ref h_m_five, .ref h_m_six, .ref h_m_seven, .ref h_m_eight, .ref h_m_work, .ref h_m_small, .int m_rows, .int m_columns, .int m_prime, .ref h_m_pivots, .ref h_m_freeRows, .ref h_m_freeColumns, .ref h_m_minor, .ref h_m_smallMinor, .ref h_m_fields, .ref h_m_rowCounts, .ref h_m_elements, .ref h_m_numbers, .ref h_m_known, .ref h_m_ranks, .ref h_m_rankOf, .ref h_m_signOf, .ref h_m_order, .ref h_m_sizes, .ref h_m_coefficients, .ref h_m_choices, .ref h_m_sorted])), (h_m_elements, .inl (cI, m_elements_n, .inl m_elements))] sz) [(h_m, .inr (6, [.ref h_m_one, .ref h_m_two, .ref h_m_three, .ref h_m_four, .ref h_m_five, .ref h_m_six, .ref h_m_seven, .ref h_m_eight, .ref h_m_work, .ref h_m_small, .int m_rows, .int m_columns, .int m_prime, .ref h_m_pivots, .ref h_m_freeRows, .ref h_m_freeColumns, .ref h_m_minor, .ref h_m_smallMinor, .ref h_m_fields, .ref h_m_rowCounts, .ref h_m_elements, .ref h_m_numbers, .ref h_m_known, .ref h_m_ranks, .ref h_m_rankOf, .ref h_m_signOf, .ref h_m_order, .ref h_m_sizes, .ref h_m_coefficients, .ref h_m_choices, .ref h_m_sorted])), (h_m_elements, .inl (cI, m_elements_n, .inl m_elements))]) (va_A [(h_m, .inr (6, [.ref h_m_one, .ref h_m_two, .ref h_m_three, .ref h_m_four, .ref h_m_five, .ref h_m_six, .ref h_m_seven, .ref h_m_eight, .ref h_m_work, .ref h_m_small, .int m_rows, .int m_columns, .int m_prime, .ref h_m_pivots, .ref h_m_freeRows, .ref h_m_freeColumns, .ref h_m_minor, .ref h_m_smallMinor, .ref h_m_fields, .ref h_m_rowCounts, .ref h_m_elements, .ref h_m_numbers, .ref h_m_known, .ref h_m_ranks, .ref h_m_rankOf, .ref h_m_signOf, .ref h_m_order, .ref h_m_sizes, .ref h_m_coefficients, .ref h_m_choices, .ref h_m_sorted])), (h_m_elements, .inl (cI, m_elements_n, .inl m_elements))] sz)) 0 0 (va_A [(h_m, .inr (6, [.ref h_m_one, .ref h_m_two, .ref h_m_three, .ref h_m_four, .ref h_m_five, .ref h_m_six, .ref h_m_seven, .ref h_m_eight, .ref h_m_work, .ref h_m_small, .int m_rows, .int m_columns, .int m_prime, .ref h_m_pivots, .ref h_m_freeRows, .ref h_m_freeColumns, .ref h_m_minor, .ref h_m_smallMinor, .ref h_m_fields, .ref h_m_rowCounts, .ref h_m_elements, .ref h_m_numbers, .ref h_m_known, .ref h_m_ranks, .ref h_m_rankOf, .ref h_m_signOf, .ref h_m_order, .ref h_m_sizes, .ref h_m_coefficients, .ref h_m_choices, .ref h_m_sorted])), (h_m_elements, .inl (cI, m_elements_n, .inl m_elements))] sz) := by
  refine Met.ofW (cc := prog_7_method_27_code) (maxL := 2) (ret := (Option.some Jvm.ClassFile.FieldType.int)) (by decide) rfl ?_
  intro p e s m args below meth c s₁ B hml hv
  obtain ⟨hAR, hsz, hP, hK, hN, hD0⟩ := hv
  have hx := B.exec
  have hb := B.bytes
  have hr := B.returns
  have hts := atoms_spec (ws := w_Mo_whole) B.pre
  have hown : s.vm.findClass "BasisWalkModel" = some m.cls := findClass_of_methodNamed B.named
  have hlocks := B.notSynchronized
  clear B
  subst hsz
  have hD := hD0.self (sz := s.heap.size)
  generalize hAe : va_A [(h_m, .inr (6, [.ref h_m_one, .ref h_m_two, .ref h_m_three, .ref h_m_four, .ref h_m_five, .ref h_m_six, .ref h_m_seven, .ref h_m_eight, .ref h_m_work, .ref h_m_small, .int m_rows, .int m_columns, .int m_prime, .ref h_m_pivots, .ref h_m_freeRows, .ref h_m_freeColumns, .ref h_m_minor, .ref h_m_smallMinor, .ref h_m_fields, .ref h_m_rowCounts, .ref h_m_elements, .ref h_m_numbers, .ref h_m_known, .ref h_m_ranks, .ref h_m_rankOf, .ref h_m_signOf, .ref h_m_order, .ref h_m_sizes, .ref h_m_coefficients, .ref h_m_choices, .ref h_m_sorted])), (h_m_elements, .inl (cI, m_elements_n, .inl m_elements))] s.heap.size = A at hD ⊢
  have hA : ∀ q : Nat, s.heap.size ≤ q → A q := fun q h => by rw [← hAe]; exact Or.inr h
  clear hAe hD0
  have hS : va_S A s.heap s.heap [] := va_S.rf
  have hl := lv_entry ([.ref h_m, .int k0]) (n := 2) (Nat.le_of_ble_eq_true rfl)
  subst hAR
  rw [lg_entry_eq]
  generalize (lg_sl ([.ref h_m, .int k0]) ++ List.replicate (2 - (lg_sl ([.ref h_m, .int k0])).length) Slot.unset).toArray = ls at hl ⊢
  have hl : lv_has ls 2 [(0, .ref h_m), (1, .int k0)] := hl
  change W p l e ({ frames := 0, cells := 0, slots := 0, locals := 0 } : Room) s m _ below meth c s.heap [] 0 0 _ _
  generalize hARe : ([.ref h_m, .int k0] : List Value).toArray = AR at hts ⊢
  clear hARe
  generalize hQ : MQ below _ AR s 0 0 A = QQ
  have fl0 := hts _ (List.mem_cons_of_mem _ tw_375)
  have iw1 := (fun w hw => List.mem_cons_of_mem _ (in_Mo w hw) : ∀ w ∈ u_ws "BasisWalkModel" T_Mo 31, w ∈ w_Mo_whole)
  obtain ⟨H, hHe⟩ : ∃ H : Heap, H = s.heap := ⟨_, rfl⟩
  rw [← hHe] at hP ⊢
  replace hS : va_S A s.heap H [] := by rw [hHe]; exact va_S.rf
  clear hHe
  unfold f_R_whole at h
  refine lv_iconst (v := 1) hx hb d_Mo_whole_0 (by decide) ?_
  refine lv_aload_n hx hb d_Mo_whole_1 rfl (lv_at hl 0 rfl) ?_
  refine va_get (D := (dC, dI)) (ci := 6) (v := .ref h_m_elements) (C := "BasisWalkModel") (T := T_Mo) (N := 31) hx hb hts iw1 hown hK hP 0 rfl rfl 20 (by decide) fl0 (fun _ h9 => h9) rfl d_Mo_whole_2 ?_
  refine lv_iload_n hx hb d_Mo_whole_5 rfl (lv_at hl 1 rfl) ?_
  obtain ⟨g_1, h⟩ := ck_in_s h
  refine va_iald hx hb hK hP 1 0 rfl rfl g_1 d_Mo_whole_6 ?_
  refine lv_ishl hx hb d_Mo_whole_7 ?_
  refine lv_iconst (v := 1) hx hb d_Mo_whole_8 (by decide) ?_
  refine lv_isub hx hb d_Mo_whole_9 ?_
  obtain rfl := Option.some.inj h
  subst hQ
  exact W.iret (v := (((1 : Int32) <<< ((m_elements k0.toNatClampNeg) &&& 31)) - 1)) hx hb hr (fun t ht hW => ⟨⟨(((1 : Int32) <<< ((m_elements k0.toNatClampNeg) &&& 31)) - 1), (), rfl, rfl, by rw [ht]; exact hP, va_K.moved hW.alike hK, hD⟩, hS.F ht⟩) hS.2.2 d_Mo_whole_10
theorem d_Mo_isFree_0 : decode prog_7_method_28_code 0 = .ok (.aload_n 0, 1) := by decide +kernel
theorem d_Mo_isFree_1 : decode prog_7_method_28_code 1 = .ok (.iload_n 1, 1) := by decide +kernel
theorem d_Mo_isFree_2 : decode prog_7_method_28_code 2 = .ok (.iload_n 2, 1) := by decide +kernel
theorem d_Mo_isFree_3 : decode prog_7_method_28_code 3 = .ok (.invokevirtual 222, 3) := by decide +kernel
theorem d_Mo_isFree_6 : decode prog_7_method_28_code 6 = .ok (.aload_n 0, 1) := by decide +kernel
theorem d_Mo_isFree_7 : decode prog_7_method_28_code 7 = .ok (.getfield 182, 3) := by decide +kernel
theorem d_Mo_isFree_10 : decode prog_7_method_28_code 10 = .ok (.iload_n 2, 1) := by decide +kernel
theorem d_Mo_isFree_11 : decode prog_7_method_28_code 11 = .ok (.iaload, 1) := by decide +kernel
theorem d_Mo_isFree_12 : decode prog_7_method_28_code 12 = .ok (.if_icmp .ne 7, 3) := by decide +kernel
theorem d_Mo_isFree_15 : decode prog_7_method_28_code 15 = .ok (.iconst 1, 1) := by decide +kernel
theorem d_Mo_isFree_16 : decode prog_7_method_28_code 16 = .ok (.goto 4, 3) := by decide +kernel
theorem d_Mo_isFree_19 : decode prog_7_method_28_code 19 = .ok (.iconst 0, 1) := by decide +kernel
theorem d_Mo_isFree_20 : decode prog_7_method_28_code 20 = .ok (.ireturn, 1) := by decide +kernel
def f_R_isFree (m_rankOf_n : Nat) (m_rankOf : Nat → Int32) (m_sizes_n : Nat) (m_sizes : Nat → Int32) (k0 : Int32) (set0 : Int32) : Option (Int32) :=
  ck_b1 (f_R_r m_rankOf_n m_rankOf k0 set0) <| fun r_1 => ck_in set0 m_sizes_n <| ck_if (r_1 = (m_sizes set0.toNatClampNeg)) (some 1) (some 0)
set_option maxHeartbeats 4000000 in
set_option maxRecDepth 100000 in
theorem c_R_isFree (l : Launch) (dC : Nat → ClassId) (dI : Nat → Nat → Nat) (cI cJ cB cZ cT cN : ClassId) (sz : Nat) (h_m : Nat) (h_m_one : Nat) (h_m_two : Nat) (h_m_three : Nat) (h_m_four : Nat) (h_m_five : Nat) (h_m_six : Nat) (h_m_seven : Nat) (h_m_eight : Nat) (h_m_work : Nat) (h_m_small : Nat) (h_m_pivots : Nat) (h_m_freeRows : Nat) (h_m_freeColumns : Nat) (h_m_minor : Nat) (h_m_smallMinor : Nat) (h_m_fields : Nat) (h_m_rowCounts : Nat) (h_m_elements : Nat) (h_m_numbers : Nat) (h_m_known : Nat) (h_m_ranks : Nat) (h_m_rankOf : Nat) (h_m_signOf : Nat) (h_m_order : Nat) (h_m_sizes : Nat) (h_m_coefficients : Nat) (h_m_choices : Nat) (h_m_sorted : Nat) (m_rows : Int32) (m_columns : Int32) (m_prime : Int32) (m_rankOf_n : Nat) (m_rankOf : Nat → Int32) (m_sizes_n : Nat) (m_sizes : Nat → Int32) (k0 : Int32) (set0 : Int32) (r : Int32) (h : f_R_isFree m_rankOf_n m_rankOf m_sizes_n m_sizes k0 set0 = some r) : Met l y_Mo_isFree w_Mo_isFree ({ frames := 1, cells := 0, slots := 0, locals := 22 } : Room) (va_Pc [.ref h_m, .int k0, .int set0] (fun U => U.heap.size = sz ∧ va_P (dC, dI) cl_all [(h_m, .inr (6, [.ref h_m_one, .ref h_m_two, .ref h_m_three, .ref h_m_four, .ref h_m_five, .ref h_m_six, .ref h_m_seven, .ref h_m_eight, .ref h_m_work, .ref h_m_small, .int m_rows, .int m_columns, .int m_prime, .ref h_m_pivots, .ref h_m_freeRows, .ref h_m_freeColumns, .ref h_m_minor, .ref h_m_smallMinor, .ref h_m_fields, .ref h_m_rowCounts, .ref h_m_elements, .ref h_m_numbers, .ref h_m_known, .ref h_m_ranks, .ref h_m_rankOf, .ref h_m_signOf, .ref h_m_order, .ref h_m_sizes, .ref h_m_coefficients, .ref h_m_choices, .ref h_m_sorted])), (h_m_rankOf, .inl (cB, m_rankOf_n, .inl m_rankOf)), (h_m_sizes, .inl (cI, m_sizes_n, .inl m_sizes))] U.heap ∧ va_K (dC, dI) cl_all [(cI, .int), (cJ, .long), (cB, .byte), (cZ, .boolean), (cT, .object "BasisWalk$Table"), (cN, .object "BasisWalkModel$Num")] U ∧ NW U ∧ va_D (fun _ => True) [(h_m, .inr (6, [.ref h_m_one, .ref h_m_two, .ref h_m_three, .ref h_m_four, .ref h_m_five, .ref h_m_six, .ref h_m_seven, .ref h_m_eight, .ref h_m_work, .ref h_m_small, .int m_rows, .int m_columns, .int m_prime, .ref h_m_pivots, .ref h_m_freeRows, .ref h_m_freeColumns, .ref h_m_minor, .ref h_m_smallMinor, .ref h_m_fields, .ref h_m_rowCounts, .ref h_m_elements, .ref h_m_numbers, .ref h_m_known, .ref h_m_ranks, .ref h_m_rankOf, .ref h_m_signOf, .ref h_m_order, .ref h_m_sizes, .ref h_m_coefficients, .ref h_m_choices, .ref h_m_sorted])), (h_m_rankOf, .inl (cB, m_rankOf_n, .inl m_rankOf)), (h_m_sizes, .inl (cI, m_sizes_n, .inl m_sizes))])) (va_Qi (fun (v : Int32) (_ : Unit) => v = r) (fun (u : Unit) (t : State) => va_P (dC, dI) cl_all [(h_m, .inr (6, [.ref h_m_one, .ref h_m_two, .ref h_m_three, .ref h_m_four, .ref h_m_five, .ref h_m_six, .ref h_m_seven, .ref h_m_eight, .ref h_m_work, .ref h_m_small, .int m_rows, .int m_columns, .int m_prime, .ref h_m_pivots, .ref h_m_freeRows, .ref h_m_freeColumns, .ref h_m_minor, .ref h_m_smallMinor, .ref h_m_fields, .ref h_m_rowCounts, .ref h_m_elements, .ref h_m_numbers, .ref h_m_known, .ref h_m_ranks, .ref h_m_rankOf, .ref h_m_signOf, .ref h_m_order, .ref h_m_sizes, .ref h_m_coefficients, .ref h_m_choices, .ref h_m_sorted])), (h_m_rankOf, .inl (cB, m_rankOf_n, .inl m_rankOf)), (h_m_sizes, .inl (cI, m_sizes_n, .inl m_sizes))] t.heap ∧ va_K (dC, dI) cl_all [(cI, .int), (cJ, .long), (cB, .byte), (cZ, .boolean), (cT, .object "BasisWalk$Table"), (cN, .object "BasisWalkModel$Num")] t ∧ va_D (va_A [(h_m, .inr (6, [.ref h_m_one, .ref h_m_two, .ref h_m_three, .ref h_m_four, .ref h_m_five, .ref h_m_six, .ref h_m_seven, .ref h_m_eight, .ref h_m_work, .ref h_m_small, .int m_rows, .int m_columns, .int m_prime, .ref h_m_pivots, .ref h_m_freeRows, .ref h_m_freeColumns, .ref h_m_minor, .ref h_m_smallMinor, .ref h_m_fields, .ref h_m_rowCounts, .ref h_m_elements, .ref h_m_numbers, .ref h_m_known, .ref h_m_ranks, .ref h_m_rankOf, .ref h_m_signOf, .ref h_m_order, .ref h_m_sizes, .ref h_m_coefficients, .ref h_m_choices, .ref h_m_sorted])), (h_m_rankOf, .inl (cB, m_rankOf_n, .inl m_rankOf)), (h_m_sizes, .inl (cI, m_sizes_n, .inl m_sizes))] sz) [(h_m, .inr (6, [.ref h_m_one, .ref h_m_two, .ref h_m_three, .ref h_m_four, .ref h_m_five, .ref h_m_six, .ref h_m_seven, .ref h_m_eight, .ref h_m_work, .ref h_m_small, .int m_rows, .int m_columns, .int m_prime, .ref h_m_pivots, .ref h_m_freeRows, .ref h_m_freeColumns, .ref h_m_minor, .ref h_m_smallMinor, .ref h_m_fields, .ref h_m_rowCounts, .ref h_m_elements, .ref h_m_numbers, .ref h_m_known, .ref h_m_ranks, .ref h_m_rankOf, .ref h_m_signOf, .ref h_m_order, .ref h_m_sizes, .ref h_m_coefficients, .ref h_m_choices, .ref h_m_sorted])), (h_m_rankOf, .inl (cB, m_rankOf_n, .inl m_rankOf)), (h_m_sizes, .inl (cI, m_sizes_n, .inl m_sizes))]) (va_A [(h_m, .inr (6, [.ref h_m_one, .ref h_m_two, .ref h_m_three, .ref h_m_four, .ref h_m_five, .ref h_m_six, .ref h_m_seven, .ref h_m_eight, .ref h_m_work, .ref h_m_small, .int m_rows, .int m_columns, .int m_prime, .ref h_m_pivots, .ref h_m_freeRows, .ref h_m_freeColumns, .ref h_m_minor, .ref h_m_smallMinor, .ref h_m_fields, .ref h_m_rowCounts, .ref h_m_elements, .ref h_m_numbers, .ref h_m_known, .ref h_m_ranks, .ref h_m_rankOf, .ref h_m_signOf, .ref h_m_order, .ref h_m_sizes, .ref h_m_coefficients, .ref h_m_choices, .ref h_m_sorted])), (h_m_rankOf, .inl (cB, m_rankOf_n, .inl m_rankOf)), (h_m_sizes, .inl (cI, m_sizes_n, .inl m_sizes))] sz)) 0 0 (va_A [(h_m, .inr (6, [.ref h_m_one, .ref h_m_two, .ref h_m_three, .ref h_m_four, .ref h_m_five, .ref h_m_six, .ref h_m_seven, .ref h_m_eight, .ref h_m_work, .ref h_m_small, .int m_rows, .int m_columns, .int m_prime, .ref h_m_pivots, .ref h_m_freeRows, .ref h_m_freeColumns, .ref h_m_minor, .ref h_m_smallMinor, .ref h_m_fields, .ref h_m_rowCounts, .ref h_m_elements, .ref h_m_numbers, .ref h_m_known, .ref h_m_ranks, .ref h_m_rankOf, .ref h_m_signOf, .ref h_m_order, .ref h_m_sizes, .ref h_m_coefficients, .ref h_m_choices, .ref h_m_sorted])), (h_m_rankOf, .inl (cB, m_rankOf_n, .inl m_rankOf)), (h_m_sizes, .inl (cI, m_sizes_n, .inl m_sizes))] sz) := by
  refine Met.ofW (cc := prog_7_method_28_code) (maxL := 3) (ret := (Option.some Jvm.ClassFile.FieldType.boolean)) (by decide) rfl ?_
  intro p e s m args below meth c s₁ B hml hv
  obtain ⟨hAR, hsz, hP, hK, hN, hD0⟩ := hv
  have hx := B.exec
  have hb := B.bytes
  have hr := B.returns
  have hts := atoms_spec (ws := w_Mo_isFree) B.pre
  have hown : s.vm.findClass "BasisWalkModel" = some m.cls := findClass_of_methodNamed B.named
  have hlocks := B.notSynchronized
  clear B
  subst hsz
  have hD := hD0.self (sz := s.heap.size)
  generalize hAe : va_A [(h_m, .inr (6, [.ref h_m_one, .ref h_m_two, .ref h_m_three, .ref h_m_four, .ref h_m_five, .ref h_m_six, .ref h_m_seven, .ref h_m_eight, .ref h_m_work, .ref h_m_small, .int m_rows, .int m_columns, .int m_prime, .ref h_m_pivots, .ref h_m_freeRows, .ref h_m_freeColumns, .ref h_m_minor, .ref h_m_smallMinor, .ref h_m_fields, .ref h_m_rowCounts, .ref h_m_elements, .ref h_m_numbers, .ref h_m_known, .ref h_m_ranks, .ref h_m_rankOf, .ref h_m_signOf, .ref h_m_order, .ref h_m_sizes, .ref h_m_coefficients, .ref h_m_choices, .ref h_m_sorted])), (h_m_rankOf, .inl (cB, m_rankOf_n, .inl m_rankOf)), (h_m_sizes, .inl (cI, m_sizes_n, .inl m_sizes))] s.heap.size = A at hD ⊢
  have hA : ∀ q : Nat, s.heap.size ≤ q → A q := fun q h => by rw [← hAe]; exact Or.inr h
  clear hAe hD0
  have hS : va_S A s.heap s.heap [] := va_S.rf
  have hl := lv_entry ([.ref h_m, .int k0, .int set0]) (n := 3) (Nat.le_of_ble_eq_true rfl)
  subst hAR
  rw [lg_entry_eq]
  generalize (lg_sl ([.ref h_m, .int k0, .int set0]) ++ List.replicate (3 - (lg_sl ([.ref h_m, .int k0, .int set0])).length) Slot.unset).toArray = ls at hl ⊢
  have hl : lv_has ls 3 [(0, .ref h_m), (1, .int k0), (2, .int set0)] := hl
  change W p l e ({ frames := 1, cells := 0, slots := 0, locals := 22 } : Room) s m _ below meth c s.heap [] 0 0 _ _
  generalize hARe : ([.ref h_m, .int k0, .int set0] : List Value).toArray = AR at hts ⊢
  clear hARe
  generalize hQ : MQ below _ AR s 0 0 A = QQ
  have fl0 := hts _ (List.mem_cons_of_mem _ tw_382)
  have iw1 := (fun w hw => List.mem_cons_of_mem _ (in_Mo w hw) : ∀ w ∈ u_ws "BasisWalkModel" T_Mo 31, w ∈ w_Mo_isFree)
  obtain ⟨H, hHe⟩ : ∃ H : Heap, H = s.heap := ⟨_, rfl⟩
  rw [← hHe] at hP ⊢
  replace hS : va_S A s.heap H [] := by rw [hHe]; exact va_S.rf
  clear hHe
  unfold f_R_isFree at h
  refine lv_aload_n hx hb d_Mo_isFree_0 rfl (lv_at hl 0 rfl) ?_
  refine lv_iload_n hx hb d_Mo_isFree_1 rfl (lv_at hl 1 rfl) ?_
  refine lv_iload_n hx hb d_Mo_isFree_2 rfl (lv_at hl 2 rfl) ?_
  obtain ⟨r_1, hc_2, h⟩ := ck_b1_s h
  have hPc := hP.sub (ws' := [(h_m, .inr (6, [.ref h_m_one, .ref h_m_two, .ref h_m_three, .ref h_m_four, .ref h_m_five, .ref h_m_six, .ref h_m_seven, .ref h_m_eight, .ref h_m_work, .ref h_m_small, .int m_rows, .int m_columns, .int m_prime, .ref h_m_pivots, .ref h_m_freeRows, .ref h_m_freeColumns, .ref h_m_minor, .ref h_m_smallMinor, .ref h_m_fields, .ref h_m_rowCounts, .ref h_m_elements, .ref h_m_numbers, .ref h_m_known, .ref h_m_ranks, .ref h_m_rankOf, .ref h_m_signOf, .ref h_m_order, .ref h_m_sizes, .ref h_m_coefficients, .ref h_m_choices, .ref h_m_sorted])), (h_m_rankOf, .inl (cB, m_rankOf_n, .inl m_rankOf))]) [0, 1] rfl
  have hDc := hD.sub (ws' := [(h_m, .inr (6, [.ref h_m_one, .ref h_m_two, .ref h_m_three, .ref h_m_four, .ref h_m_five, .ref h_m_six, .ref h_m_seven, .ref h_m_eight, .ref h_m_work, .ref h_m_small, .int m_rows, .int m_columns, .int m_prime, .ref h_m_pivots, .ref h_m_freeRows, .ref h_m_freeColumns, .ref h_m_minor, .ref h_m_smallMinor, .ref h_m_fields, .ref h_m_rowCounts, .ref h_m_elements, .ref h_m_numbers, .ref h_m_known, .ref h_m_ranks, .ref h_m_rankOf, .ref h_m_signOf, .ref h_m_order, .ref h_m_sizes, .ref h_m_coefficients, .ref h_m_choices, .ref h_m_sorted])), (h_m_rankOf, .inl (cB, m_rankOf_n, .inl m_rankOf))]) [0, 1] (by decide) rfl
  have hFc := va_free (wc := [(h_m, .inr (6, [.ref h_m_one, .ref h_m_two, .ref h_m_three, .ref h_m_four, .ref h_m_five, .ref h_m_six, .ref h_m_seven, .ref h_m_eight, .ref h_m_work, .ref h_m_small, .int m_rows, .int m_columns, .int m_prime, .ref h_m_pivots, .ref h_m_freeRows, .ref h_m_freeColumns, .ref h_m_minor, .ref h_m_smallMinor, .ref h_m_fields, .ref h_m_rowCounts, .ref h_m_elements, .ref h_m_numbers, .ref h_m_known, .ref h_m_ranks, .ref h_m_rankOf, .ref h_m_signOf, .ref h_m_order, .ref h_m_sizes, .ref h_m_coefficients, .ref h_m_choices, .ref h_m_sorted])), (h_m_rankOf, .inl (cB, m_rankOf_n, .inl m_rankOf))]) hD hS hA [0, 1] rfl
  refine va_calli (va_runV (As := [.int k0, .int set0]) (rest := []) ⟨hx, hb, hml, hown, hts⟩ (c_R_r l dC dI cI cJ cB cZ cT cN H.size h_m h_m_one h_m_two h_m_three h_m_four h_m_five h_m_six h_m_seven h_m_eight h_m_work h_m_small h_m_pivots h_m_freeRows h_m_freeColumns h_m_minor h_m_smallMinor h_m_fields h_m_rowCounts h_m_elements h_m_numbers h_m_known h_m_ranks h_m_rankOf h_m_signOf h_m_order h_m_sizes h_m_coefficients h_m_choices h_m_sorted m_rows m_columns m_prime m_rankOf_n m_rankOf k0 set0 _ hc_2) (cwV 2 hts (tb_V tw_602 tw_604 tp_35 tw_6 tw_605) rfl rfl rfl (by decide +kernel) ⟨Nat.le_of_ble_eq_true rfl, Nat.le_of_ble_eq_true rfl⟩) ⟨fun a U g mk q => by obtain ⟨q0, q1, qP, qK, qN, qD⟩ := q; exact ⟨q0, q1, qP, va_K.moved (u := U) (U := U.calling g mk a) (Vm.Alike.refl U.vm) qK, qN.same rfl, qD⟩, va_recv hK hPc (ci := 6) (q0 := 0) rfl rfl, fun U hU hW => ⟨rfl, by rw [hU], by rw [hU]; exact hPc, va_K.moved hW.alike hK, hN.warm hW, hDc.weaken (fun _ _ _ _ => trivial)⟩⟩ rfl rfl hl.1 rfl (lv_room (Nat.le_of_ble_eq_true rfl)) d_Mo_isFree_3 ⟨Nat.zero_le _, Nat.zero_le _⟩) hS (fun q _ h => hFc q h) hFc (fun rr u t H1 locs ht hvm hw hB hz1 hk1 hS => ?_)
  replace hw := hw.symm
  subst hw
  obtain ⟨hP1, -, hD1⟩ := hB
  rw [ht] at hP1
  obtain ⟨hP, hD⟩ := va_join (wr := [(h_m_sizes, .inl (cI, m_sizes_n, .inl m_sizes))]) (w1 := [(h_m, .inr (6, [.ref h_m_one, .ref h_m_two, .ref h_m_three, .ref h_m_four, .ref h_m_five, .ref h_m_six, .ref h_m_seven, .ref h_m_eight, .ref h_m_work, .ref h_m_small, .int m_rows, .int m_columns, .int m_prime, .ref h_m_pivots, .ref h_m_freeRows, .ref h_m_freeColumns, .ref h_m_minor, .ref h_m_smallMinor, .ref h_m_fields, .ref h_m_rowCounts, .ref h_m_elements, .ref h_m_numbers, .ref h_m_known, .ref h_m_ranks, .ref h_m_rankOf, .ref h_m_signOf, .ref h_m_order, .ref h_m_sizes, .ref h_m_coefficients, .ref h_m_choices, .ref h_m_sorted])), (h_m_rankOf, .inl (cB, m_rankOf_n, .inl m_rankOf))]) hP hD [0, 1] [2] rfl rfl (by decide) (by decide) hk1 hFc hP1 hD1
  generalize H1 = H at hP hS ⊢
  have hP : va_P (dC, dI) cl_all [(h_m, .inr (6, [.ref h_m_one, .ref h_m_two, .ref h_m_three, .ref h_m_four, .ref h_m_five, .ref h_m_six, .ref h_m_seven, .ref h_m_eight, .ref h_m_work, .ref h_m_small, .int m_rows, .int m_columns, .int m_prime, .ref h_m_pivots, .ref h_m_freeRows, .ref h_m_freeColumns, .ref h_m_minor, .ref h_m_smallMinor, .ref h_m_fields, .ref h_m_rowCounts, .ref h_m_elements, .ref h_m_numbers, .ref h_m_known, .ref h_m_ranks, .ref h_m_rankOf, .ref h_m_signOf, .ref h_m_order, .ref h_m_sizes, .ref h_m_coefficients, .ref h_m_choices, .ref h_m_sorted])), (h_m_rankOf, .inl (cB, m_rankOf_n, .inl m_rankOf)), (h_m_sizes, .inl (cI, m_sizes_n, .inl m_sizes))] H := hP.sub [1, 2, 0] rfl
  have hD : va_D A [(h_m, .inr (6, [.ref h_m_one, .ref h_m_two, .ref h_m_three, .ref h_m_four, .ref h_m_five, .ref h_m_six, .ref h_m_seven, .ref h_m_eight, .ref h_m_work, .ref h_m_small, .int m_rows, .int m_columns, .int m_prime, .ref h_m_pivots, .ref h_m_freeRows, .ref h_m_freeColumns, .ref h_m_minor, .ref h_m_smallMinor, .ref h_m_fields, .ref h_m_rowCounts, .ref h_m_elements, .ref h_m_numbers, .ref h_m_known, .ref h_m_ranks, .ref h_m_rankOf, .ref h_m_signOf, .ref h_m_order, .ref h_m_sizes, .ref h_m_coefficients, .ref h_m_choices, .ref h_m_sorted])), (h_m_rankOf, .inl (cB, m_rankOf_n, .inl m_rankOf)), (h_m_sizes, .inl (cI, m_sizes_n, .inl m_sizes))] := hD.sub [1, 2, 0] (by decide) rfl
  refine lv_aload_n hx hb d_Mo_isFree_6 rfl (lv_at hl 0 rfl) ?_
  refine va_get (D := (dC, dI)) (ci := 6) (v := .ref h_m_sizes) (C := "BasisWalkModel") (T := T_Mo) (N := 31) hx hb hts iw1 hown hK hP 0 rfl rfl 27 (by decide) fl0 (fun _ h9 => h9) rfl d_Mo_isFree_7 ?_
  refine lv_iload_n hx hb d_Mo_isFree_10 rfl (lv_at hl 2 rfl) ?_
  obtain ⟨g_3, h⟩ := ck_in_s h
  refine va_iald hx hb hK hP 2 0 rfl rfl g_3 d_Mo_isFree_11 ?_
  refine lv_icmp_ne (tgt := 19) hx hb d_Mo_isFree_12 (by decide) (fun c_4 => ?_) (fun c_4 => ?_)
  · replace h := ck_if_f h c_4
    refine lv_iconst (v := 0) hx hb d_Mo_isFree_19 (by decide) ?_
    obtain rfl := Option.some.inj h
    subst hQ
    exact W.zret (ty := .boolean) (v := 0) hx hb hr rfl (fun t ht hW => ⟨⟨0, (), rfl, rfl, by rw [ht]; exact hP, va_K.moved hW.alike hK, hD⟩, hS.F ht⟩) hS.2.2 d_Mo_isFree_20
  · replace h := ck_if_t h c_4
    refine lv_iconst (v := 1) hx hb d_Mo_isFree_15 (by decide) ?_
    refine lv_goto (tgt := 20) hx hb d_Mo_isFree_16 (by decide) ?_
    obtain rfl := Option.some.inj h
    subst hQ
    exact W.zret (ty := .boolean) (v := 1) hx hb hr rfl (fun t ht hW => ⟨⟨1, (), rfl, rfl, by rw [ht]; exact hP, va_K.moved hW.alike hK, hD⟩, hS.F ht⟩) hS.2.2 d_Mo_isFree_20
theorem d_Mo_dualRank_0 : decode prog_7_method_29_code 0 = .ok (.aload_n 0, 1) := by decide +kernel
theorem d_Mo_dualRank_1 : decode prog_7_method_29_code 1 = .ok (.getfield 182, 3) := by decide +kernel
theorem d_Mo_dualRank_4 : decode prog_7_method_29_code 4 = .ok (.iload_n 2, 1) := by decide +kernel
theorem d_Mo_dualRank_5 : decode prog_7_method_29_code 5 = .ok (.iaload, 1) := by decide +kernel
theorem d_Mo_dualRank_6 : decode prog_7_method_29_code 6 = .ok (.aload_n 0, 1) := by decide +kernel
theorem d_Mo_dualRank_7 : decode prog_7_method_29_code 7 = .ok (.getfield 169, 3) := by decide +kernel
theorem d_Mo_dualRank_10 : decode prog_7_method_29_code 10 = .ok (.iload_n 1, 1) := by decide +kernel
theorem d_Mo_dualRank_11 : decode prog_7_method_29_code 11 = .ok (.iaload, 1) := by decide +kernel
theorem d_Mo_dualRank_12 : decode prog_7_method_29_code 12 = .ok (.isub, 1) := by decide +kernel
theorem d_Mo_dualRank_13 : decode prog_7_method_29_code 13 = .ok (.aload_n 0, 1) := by decide +kernel
theorem d_Mo_dualRank_14 : decode prog_7_method_29_code 14 = .ok (.iload_n 1, 1) := by decide +kernel
theorem d_Mo_dualRank_15 : decode prog_7_method_29_code 15 = .ok (.aload_n 0, 1) := by decide +kernel
theorem d_Mo_dualRank_16 : decode prog_7_method_29_code 16 = .ok (.iload_n 1, 1) := by decide +kernel
theorem d_Mo_dualRank_17 : decode prog_7_method_29_code 17 = .ok (.invokevirtual 226, 3) := by decide +kernel
theorem d_Mo_dualRank_20 : decode prog_7_method_29_code 20 = .ok (.iload_n 2, 1) := by decide +kernel
theorem d_Mo_dualRank_21 : decode prog_7_method_29_code 21 = .ok (.iconst (-1), 1) := by decide +kernel
theorem d_Mo_dualRank_22 : decode prog_7_method_29_code 22 = .ok (.ixor, 1) := by decide +kernel
theorem d_Mo_dualRank_23 : decode prog_7_method_29_code 23 = .ok (.iand, 1) := by decide +kernel
theorem d_Mo_dualRank_24 : decode prog_7_method_29_code 24 = .ok (.invokevirtual 222, 3) := by decide +kernel
theorem d_Mo_dualRank_27 : decode prog_7_method_29_code 27 = .ok (.iadd, 1) := by decide +kernel
theorem d_Mo_dualRank_28 : decode prog_7_method_29_code 28 = .ok (.ireturn, 1) := by decide +kernel
def f_R_dualRank (m_rankOf_n : Nat) (m_rankOf : Nat → Int32) (m_sizes_n : Nat) (m_sizes : Nat → Int32) (m_ranks_n : Nat) (m_ranks : Nat → Int32) (m_elements_n : Nat) (m_elements : Nat → Int32) (k0 : Int32) (set0 : Int32) : Option (Int32) :=
  ck_in set0 m_sizes_n <| ck_in k0 m_ranks_n <| ck_b1 (f_R_whole m_elements_n m_elements k0) <| fun r_3 => ck_b1 (f_R_r m_rankOf_n m_rankOf k0 (r_3 &&& (set0 ^^^ (-1)))) <| fun r_5 => some (((m_sizes set0.toNatClampNeg) - (m_ranks k0.toNatClampNeg)) + r_5)
set_option maxHeartbeats 4000000 in
set_option maxRecDepth 100000 in
theorem c_R_dualRank (l : Launch) (dC : Nat → ClassId) (dI : Nat → Nat → Nat) (cI cJ cB cZ cT cN : ClassId) (sz : Nat) (h_m : Nat) (h_m_one : Nat) (h_m_two : Nat) (h_m_three : Nat) (h_m_four : Nat) (h_m_five : Nat) (h_m_six : Nat) (h_m_seven : Nat) (h_m_eight : Nat) (h_m_work : Nat) (h_m_small : Nat) (h_m_pivots : Nat) (h_m_freeRows : Nat) (h_m_freeColumns : Nat) (h_m_minor : Nat) (h_m_smallMinor : Nat) (h_m_fields : Nat) (h_m_rowCounts : Nat) (h_m_elements : Nat) (h_m_numbers : Nat) (h_m_known : Nat) (h_m_ranks : Nat) (h_m_rankOf : Nat) (h_m_signOf : Nat) (h_m_order : Nat) (h_m_sizes : Nat) (h_m_coefficients : Nat) (h_m_choices : Nat) (h_m_sorted : Nat) (m_rows : Int32) (m_columns : Int32) (m_prime : Int32) (m_rankOf_n : Nat) (m_rankOf : Nat → Int32) (m_sizes_n : Nat) (m_sizes : Nat → Int32) (m_ranks_n : Nat) (m_ranks : Nat → Int32) (m_elements_n : Nat) (m_elements : Nat → Int32) (k0 : Int32) (set0 : Int32) (r : Int32) (h : f_R_dualRank m_rankOf_n m_rankOf m_sizes_n m_sizes m_ranks_n m_ranks m_elements_n m_elements k0 set0 = some r) : Met l y_Mo_dualRank w_Mo_dualRank ({ frames := 1, cells := 0, slots := 0, locals := 22 } : Room) (va_Pc [.ref h_m, .int k0, .int set0] (fun U => U.heap.size = sz ∧ va_P (dC, dI) cl_all [(h_m, .inr (6, [.ref h_m_one, .ref h_m_two, .ref h_m_three, .ref h_m_four, .ref h_m_five, .ref h_m_six, .ref h_m_seven, .ref h_m_eight, .ref h_m_work, .ref h_m_small, .int m_rows, .int m_columns, .int m_prime, .ref h_m_pivots, .ref h_m_freeRows, .ref h_m_freeColumns, .ref h_m_minor, .ref h_m_smallMinor, .ref h_m_fields, .ref h_m_rowCounts, .ref h_m_elements, .ref h_m_numbers, .ref h_m_known, .ref h_m_ranks, .ref h_m_rankOf, .ref h_m_signOf, .ref h_m_order, .ref h_m_sizes, .ref h_m_coefficients, .ref h_m_choices, .ref h_m_sorted])), (h_m_rankOf, .inl (cB, m_rankOf_n, .inl m_rankOf)), (h_m_sizes, .inl (cI, m_sizes_n, .inl m_sizes)), (h_m_ranks, .inl (cI, m_ranks_n, .inl m_ranks)), (h_m_elements, .inl (cI, m_elements_n, .inl m_elements))] U.heap ∧ va_K (dC, dI) cl_all [(cI, .int), (cJ, .long), (cB, .byte), (cZ, .boolean), (cT, .object "BasisWalk$Table"), (cN, .object "BasisWalkModel$Num")] U ∧ NW U ∧ va_D (fun _ => True) [(h_m, .inr (6, [.ref h_m_one, .ref h_m_two, .ref h_m_three, .ref h_m_four, .ref h_m_five, .ref h_m_six, .ref h_m_seven, .ref h_m_eight, .ref h_m_work, .ref h_m_small, .int m_rows, .int m_columns, .int m_prime, .ref h_m_pivots, .ref h_m_freeRows, .ref h_m_freeColumns, .ref h_m_minor, .ref h_m_smallMinor, .ref h_m_fields, .ref h_m_rowCounts, .ref h_m_elements, .ref h_m_numbers, .ref h_m_known, .ref h_m_ranks, .ref h_m_rankOf, .ref h_m_signOf, .ref h_m_order, .ref h_m_sizes, .ref h_m_coefficients, .ref h_m_choices, .ref h_m_sorted])), (h_m_rankOf, .inl (cB, m_rankOf_n, .inl m_rankOf)), (h_m_sizes, .inl (cI, m_sizes_n, .inl m_sizes)), (h_m_ranks, .inl (cI, m_ranks_n, .inl m_ranks)), (h_m_elements, .inl (cI, m_elements_n, .inl m_elements))])) (va_Qi (fun (v : Int32) (_ : Unit) => v = r) (fun (u : Unit) (t : State) => va_P (dC, dI) cl_all [(h_m, .inr (6, [.ref h_m_one, .ref h_m_two, .ref h_m_three, .ref h_m_four, .ref h_m_five, .ref h_m_six, .ref h_m_seven, .ref h_m_eight, .ref h_m_work, .ref h_m_small, .int m_rows, .int m_columns, .int m_prime, .ref h_m_pivots, .ref h_m_freeRows, .ref h_m_freeColumns, .ref h_m_minor, .ref h_m_smallMinor, .ref h_m_fields, .ref h_m_rowCounts, .ref h_m_elements, .ref h_m_numbers, .ref h_m_known, .ref h_m_ranks, .ref h_m_rankOf, .ref h_m_signOf, .ref h_m_order, .ref h_m_sizes, .ref h_m_coefficients, .ref h_m_choices, .ref h_m_sorted])), (h_m_rankOf, .inl (cB, m_rankOf_n, .inl m_rankOf)), (h_m_sizes, .inl (cI, m_sizes_n, .inl m_sizes)), (h_m_ranks, .inl (cI, m_ranks_n, .inl m_ranks)), (h_m_elements, .inl (cI, m_elements_n, .inl m_elements))] t.heap ∧ va_K (dC, dI) cl_all [(cI, .int), (cJ, .long), (cB, .byte), (cZ, .boolean), (cT, .object "BasisWalk$Table"), (cN, .object "BasisWalkModel$Num")] t ∧ va_D (va_A [(h_m, .inr (6, [.ref h_m_one, .ref h_m_two, .ref h_m_three, .ref h_m_four, .ref h_m_five, .ref h_m_six, .ref h_m_seven, .ref h_m_eight, .ref h_m_work, .ref h_m_small, .int m_rows, .int m_columns, .int m_prime, .ref h_m_pivots, .ref h_m_freeRows, .ref h_m_freeColumns, .ref h_m_minor, .ref h_m_smallMinor, .ref h_m_fields, .ref h_m_rowCounts, .ref h_m_elements, .ref h_m_numbers, .ref h_m_known, .ref h_m_ranks, .ref h_m_rankOf, .ref h_m_signOf, .ref h_m_order, .ref h_m_sizes, .ref h_m_coefficients, .ref h_m_choices, .ref h_m_sorted])), (h_m_rankOf, .inl (cB, m_rankOf_n, .inl m_rankOf)), (h_m_sizes, .inl (cI, m_sizes_n, .inl m_sizes)), (h_m_ranks, .inl (cI, m_ranks_n, .inl m_ranks)), (h_m_elements, .inl (cI, m_elements_n, .inl m_elements))] sz) [(h_m, .inr (6, [.ref h_m_one, .ref h_m_two, .ref h_m_three, .ref h_m_four, .ref h_m_five, .ref h_m_six, .ref h_m_seven, .ref h_m_eight, .ref h_m_work, .ref h_m_small, .int m_rows, .int m_columns, .int m_prime, .ref h_m_pivots, .ref h_m_freeRows, .ref h_m_freeColumns, .ref h_m_minor, .ref h_m_smallMinor, .ref h_m_fields, .ref h_m_rowCounts, .ref h_m_elements, .ref h_m_numbers, .ref h_m_known, .ref h_m_ranks, .ref h_m_rankOf, .ref h_m_signOf, .ref h_m_order, .ref h_m_sizes, .ref h_m_coefficients, .ref h_m_choices, .ref h_m_sorted])), (h_m_rankOf, .inl (cB, m_rankOf_n, .inl m_rankOf)), (h_m_sizes, .inl (cI, m_sizes_n, .inl m_sizes)), (h_m_ranks, .inl (cI, m_ranks_n, .inl m_ranks)), (h_m_elements, .inl (cI, m_elements_n, .inl m_elements))]) (va_A [(h_m, .inr (6, [.ref h_m_one, .ref h_m_two, .ref h_m_three, .ref h_m_four, .ref h_m_five, .ref h_m_six, .ref h_m_seven, .ref h_m_eight, .ref h_m_work, .ref h_m_small, .int m_rows, .int m_columns, .int m_prime, .ref h_m_pivots, .ref h_m_freeRows, .ref h_m_freeColumns, .ref h_m_minor, .ref h_m_smallMinor, .ref h_m_fields, .ref h_m_rowCounts, .ref h_m_elements, .ref h_m_numbers, .ref h_m_known, .ref h_m_ranks, .ref h_m_rankOf, .ref h_m_signOf, .ref h_m_order, .ref h_m_sizes, .ref h_m_coefficients, .ref h_m_choices, .ref h_m_sorted])), (h_m_rankOf, .inl (cB, m_rankOf_n, .inl m_rankOf)), (h_m_sizes, .inl (cI, m_sizes_n, .inl m_sizes)), (h_m_ranks, .inl (cI, m_ranks_n, .inl m_ranks)), (h_m_elements, .inl (cI, m_elements_n, .inl m_elements))] sz)) 0 0 (va_A [(h_m, .inr (6, [.ref h_m_one, .ref h_m_two, .ref h_m_three, .ref h_m_four, .ref h_m_five, .ref h_m_six, .ref h_m_seven, .ref h_m_eight, .ref h_m_work, .ref h_m_small, .int m_rows, .int m_columns, .int m_prime, .ref h_m_pivots, .ref h_m_freeRows, .ref h_m_freeColumns, .ref h_m_minor, .ref h_m_smallMinor, .ref h_m_fields, .ref h_m_rowCounts, .ref h_m_elements, .ref h_m_numbers, .ref h_m_known, .ref h_m_ranks, .ref h_m_rankOf, .ref h_m_signOf, .ref h_m_order, .ref h_m_sizes, .ref h_m_coefficients, .ref h_m_choices, .ref h_m_sorted])), (h_m_rankOf, .inl (cB, m_rankOf_n, .inl m_rankOf)), (h_m_sizes, .inl (cI, m_sizes_n, .inl m_sizes)), (h_m_ranks, .inl (cI, m_ranks_n, .inl m_ranks)), (h_m_elements, .inl (cI, m_elements_n, .inl m_elements))] sz) := by
  refine Met.ofW (cc := prog_7_method_29_code) (maxL := 3) (ret := (Option.some Jvm.ClassFile.FieldType.int)) (by decide) rfl ?_
  intro p e s m args below meth c s₁ B hml hv
  obtain ⟨hAR, hsz, hP, hK, hN, hD0⟩ := hv
  have hx := B.exec
  have hb := B.bytes
  have hr := B.returns
  have hts := atoms_spec (ws := w_Mo_dualRank) B.pre
  have hown : s.vm.findClass "BasisWalkModel" = some m.cls := findClass_of_methodNamed B.named
  have hlocks := B.notSynchronized
  clear B
  subst hsz
  have hD := hD0.self (sz := s.heap.size)
  generalize hAe : va_A [(h_m, .inr (6, [.ref h_m_one, .ref h_m_two, .ref h_m_three, .ref h_m_four, .ref h_m_five, .ref h_m_six, .ref h_m_seven, .ref h_m_eight, .ref h_m_work, .ref h_m_small, .int m_rows, .int m_columns, .int m_prime, .ref h_m_pivots, .ref h_m_freeRows, .ref h_m_freeColumns, .ref h_m_minor, .ref h_m_smallMinor, .ref h_m_fields, .ref h_m_rowCounts, .ref h_m_elements, .ref h_m_numbers, .ref h_m_known, .ref h_m_ranks, .ref h_m_rankOf, .ref h_m_signOf, .ref h_m_order, .ref h_m_sizes, .ref h_m_coefficients, .ref h_m_choices, .ref h_m_sorted])), (h_m_rankOf, .inl (cB, m_rankOf_n, .inl m_rankOf)), (h_m_sizes, .inl (cI, m_sizes_n, .inl m_sizes)), (h_m_ranks, .inl (cI, m_ranks_n, .inl m_ranks)), (h_m_elements, .inl (cI, m_elements_n, .inl m_elements))] s.heap.size = A at hD ⊢
  have hA : ∀ q : Nat, s.heap.size ≤ q → A q := fun q h => by rw [← hAe]; exact Or.inr h
  clear hAe hD0
  have hS : va_S A s.heap s.heap [] := va_S.rf
  have hl := lv_entry ([.ref h_m, .int k0, .int set0]) (n := 3) (Nat.le_of_ble_eq_true rfl)
  subst hAR
  rw [lg_entry_eq]
  generalize (lg_sl ([.ref h_m, .int k0, .int set0]) ++ List.replicate (3 - (lg_sl ([.ref h_m, .int k0, .int set0])).length) Slot.unset).toArray = ls at hl ⊢
  have hl : lv_has ls 3 [(0, .ref h_m), (1, .int k0), (2, .int set0)] := hl
  change W p l e ({ frames := 1, cells := 0, slots := 0, locals := 22 } : Room) s m _ below meth c s.heap [] 0 0 _ _
  generalize hARe : ([.ref h_m, .int k0, .int set0] : List Value).toArray = AR at hts ⊢
  clear hARe
  generalize hQ : MQ below _ AR s 0 0 A = QQ
  have fl0 := hts _ (List.mem_cons_of_mem _ tw_382)
  have iw1 := (fun w hw => List.mem_cons_of_mem _ (in_Mo w hw) : ∀ w ∈ u_ws "BasisWalkModel" T_Mo 31, w ∈ w_Mo_dualRank)
  have fl2 := hts _ (List.mem_cons_of_mem _ tw_378)
  obtain ⟨H, hHe⟩ : ∃ H : Heap, H = s.heap := ⟨_, rfl⟩
  rw [← hHe] at hP ⊢
  replace hS : va_S A s.heap H [] := by rw [hHe]; exact va_S.rf
  clear hHe
  unfold f_R_dualRank at h
  refine lv_aload_n hx hb d_Mo_dualRank_0 rfl (lv_at hl 0 rfl) ?_
  refine va_get (D := (dC, dI)) (ci := 6) (v := .ref h_m_sizes) (C := "BasisWalkModel") (T := T_Mo) (N := 31) hx hb hts iw1 hown hK hP 0 rfl rfl 27 (by decide) fl0 (fun _ h9 => h9) rfl d_Mo_dualRank_1 ?_
  refine lv_iload_n hx hb d_Mo_dualRank_4 rfl (lv_at hl 2 rfl) ?_
  obtain ⟨g_1, h⟩ := ck_in_s h
  refine va_iald hx hb hK hP 2 0 rfl rfl g_1 d_Mo_dualRank_5 ?_
  refine lv_aload_n hx hb d_Mo_dualRank_6 rfl (lv_at hl 0 rfl) ?_
  refine va_get (D := (dC, dI)) (ci := 6) (v := .ref h_m_ranks) (C := "BasisWalkModel") (T := T_Mo) (N := 31) hx hb hts iw1 hown hK hP 0 rfl rfl 23 (by decide) fl2 (fun _ h9 => h9) rfl d_Mo_dualRank_7 ?_
  refine lv_iload_n hx hb d_Mo_dualRank_10 rfl (lv_at hl 1 rfl) ?_
  obtain ⟨g_2, h⟩ := ck_in_s h
  refine va_iald hx hb hK hP 3 0 rfl rfl g_2 d_Mo_dualRank_11 ?_
  refine lv_isub hx hb d_Mo_dualRank_12 ?_
  refine lv_aload_n hx hb d_Mo_dualRank_13 rfl (lv_at hl 0 rfl) ?_
  refine lv_iload_n hx hb d_Mo_dualRank_14 rfl (lv_at hl 1 rfl) ?_
  refine lv_aload_n hx hb d_Mo_dualRank_15 rfl (lv_at hl 0 rfl) ?_
  refine lv_iload_n hx hb d_Mo_dualRank_16 rfl (lv_at hl 1 rfl) ?_
  obtain ⟨r_3, hc_4, h⟩ := ck_b1_s h
  have hPc := hP.sub (ws' := [(h_m, .inr (6, [.ref h_m_one, .ref h_m_two, .ref h_m_three, .ref h_m_four, .ref h_m_five, .ref h_m_six, .ref h_m_seven, .ref h_m_eight, .ref h_m_work, .ref h_m_small, .int m_rows, .int m_columns, .int m_prime, .ref h_m_pivots, .ref h_m_freeRows, .ref h_m_freeColumns, .ref h_m_minor, .ref h_m_smallMinor, .ref h_m_fields, .ref h_m_rowCounts, .ref h_m_elements, .ref h_m_numbers, .ref h_m_known, .ref h_m_ranks, .ref h_m_rankOf, .ref h_m_signOf, .ref h_m_order, .ref h_m_sizes, .ref h_m_coefficients, .ref h_m_choices, .ref h_m_sorted])), (h_m_elements, .inl (cI, m_elements_n, .inl m_elements))]) [0, 4] rfl
  have hDc := hD.sub (ws' := [(h_m, .inr (6, [.ref h_m_one, .ref h_m_two, .ref h_m_three, .ref h_m_four, .ref h_m_five, .ref h_m_six, .ref h_m_seven, .ref h_m_eight, .ref h_m_work, .ref h_m_small, .int m_rows, .int m_columns, .int m_prime, .ref h_m_pivots, .ref h_m_freeRows, .ref h_m_freeColumns, .ref h_m_minor, .ref h_m_smallMinor, .ref h_m_fields, .ref h_m_rowCounts, .ref h_m_elements, .ref h_m_numbers, .ref h_m_known, .ref h_m_ranks, .ref h_m_rankOf, .ref h_m_signOf, .ref h_m_order, .ref h_m_sizes, .ref h_m_coefficients, .ref h_m_choices, .ref h_m_sorted])), (h_m_elements, .inl (cI, m_elements_n, .inl m_elements))]) [0, 4] (by decide) rfl
  have hFc := va_free (wc := [(h_m, .inr (6, [.ref h_m_one, .ref h_m_two, .ref h_m_three, .ref h_m_four, .ref h_m_five, .ref h_m_six, .ref h_m_seven, .ref h_m_eight, .ref h_m_work, .ref h_m_small, .int m_rows, .int m_columns, .int m_prime, .ref h_m_pivots, .ref h_m_freeRows, .ref h_m_freeColumns, .ref h_m_minor, .ref h_m_smallMinor, .ref h_m_fields, .ref h_m_rowCounts, .ref h_m_elements, .ref h_m_numbers, .ref h_m_known, .ref h_m_ranks, .ref h_m_rankOf, .ref h_m_signOf, .ref h_m_order, .ref h_m_sizes, .ref h_m_coefficients, .ref h_m_choices, .ref h_m_sorted])), (h_m_elements, .inl (cI, m_elements_n, .inl m_elements))]) hD hS hA [0, 4] rfl
  refine va_calli (va_runV (As := [.int k0]) (rest := [.int k0, .ref h_m, .int ((m_sizes set0.toNatClampNeg) - (m_ranks k0.toNatClampNeg))]) ⟨hx, hb, hml, hown, hts⟩ (c_R_whole l dC dI cI cJ cB cZ cT cN H.size h_m h_m_one h_m_two h_m_three h_m_four h_m_five h_m_six h_m_seven h_m_eight h_m_work h_m_small h_m_pivots h_m_freeRows h_m_freeColumns h_m_minor h_m_smallMinor h_m_fields h_m_rowCounts h_m_elements h_m_numbers h_m_known h_m_ranks h_m_rankOf h_m_signOf h_m_order h_m_sizes h_m_coefficients h_m_choices h_m_sorted m_rows m_columns m_prime m_elements_n m_elements k0 _ hc_4) (cwV 1 hts (tb_V tw_598 tw_600 tp_34 tw_6 tw_601) rfl rfl rfl (by decide +kernel) ⟨Nat.le_of_ble_eq_true rfl, Nat.le_of_ble_eq_true rfl⟩) ⟨fun a U g mk q => by obtain ⟨q0, q1, qP, qK, qN, qD⟩ := q; exact ⟨q0, q1, qP, va_K.moved (u := U) (U := U.calling g mk a) (Vm.Alike.refl U.vm) qK, qN.same rfl, qD⟩, va_recv hK hPc (ci := 6) (q0 := 0) rfl rfl, fun U hU hW => ⟨rfl, by rw [hU], by rw [hU]; exact hPc, va_K.moved hW.alike hK, hN.warm hW, hDc.weaken (fun _ _ _ _ => trivial)⟩⟩ rfl rfl hl.1 rfl (lv_room (Nat.le_of_ble_eq_true rfl)) d_Mo_dualRank_17 ⟨Nat.zero_le _, Nat.zero_le _⟩) hS (fun q _ h => hFc q h) hFc (fun rr u t H1 locs ht hvm hw hB hz1 hk1 hS => ?_)
  replace hw := hw.symm
  subst hw
  obtain ⟨hP1, -, hD1⟩ := hB
  rw [ht] at hP1
  obtain ⟨hP, hD⟩ := va_join (wr := [(h_m_rankOf, .inl (cB, m_rankOf_n, .inl m_rankOf)), (h_m_sizes, .inl (cI, m_sizes_n, .inl m_sizes)), (h_m_ranks, .inl (cI, m_ranks_n, .inl m_ranks))]) (w1 := [(h_m, .inr (6, [.ref h_m_one, .ref h_m_two, .ref h_m_three, .ref h_m_four, .ref h_m_five, .ref h_m_six, .ref h_m_seven, .ref h_m_eight, .ref h_m_work, .ref h_m_small, .int m_rows, .int m_columns, .int m_prime, .ref h_m_pivots, .ref h_m_freeRows, .ref h_m_freeColumns, .ref h_m_minor, .ref h_m_smallMinor, .ref h_m_fields, .ref h_m_rowCounts, .ref h_m_elements, .ref h_m_numbers, .ref h_m_known, .ref h_m_ranks, .ref h_m_rankOf, .ref h_m_signOf, .ref h_m_order, .ref h_m_sizes, .ref h_m_coefficients, .ref h_m_choices, .ref h_m_sorted])), (h_m_elements, .inl (cI, m_elements_n, .inl m_elements))]) hP hD [0, 4] [1, 2, 3] rfl rfl (by decide) (by decide) hk1 hFc hP1 hD1
  generalize H1 = H at hP hS ⊢
  have hP : va_P (dC, dI) cl_all [(h_m, .inr (6, [.ref h_m_one, .ref h_m_two, .ref h_m_three, .ref h_m_four, .ref h_m_five, .ref h_m_six, .ref h_m_seven, .ref h_m_eight, .ref h_m_work, .ref h_m_small, .int m_rows, .int m_columns, .int m_prime, .ref h_m_pivots, .ref h_m_freeRows, .ref h_m_freeColumns, .ref h_m_minor, .ref h_m_smallMinor, .ref h_m_fields, .ref h_m_rowCounts, .ref h_m_elements, .ref h_m_numbers, .ref h_m_known, .ref h_m_ranks, .ref h_m_rankOf, .ref h_m_signOf, .ref h_m_order, .ref h_m_sizes, .ref h_m_coefficients, .ref h_m_choices, .ref h_m_sorted])), (h_m_rankOf, .inl (cB, m_rankOf_n, .inl m_rankOf)), (h_m_sizes, .inl (cI, m_sizes_n, .inl m_sizes)), (h_m_ranks, .inl (cI, m_ranks_n, .inl m_ranks)), (h_m_elements, .inl (cI, m_elements_n, .inl m_elements))] H := hP.sub [3, 0, 1, 2, 4] rfl
  have hD : va_D A [(h_m, .inr (6, [.ref h_m_one, .ref h_m_two, .ref h_m_three, .ref h_m_four, .ref h_m_five, .ref h_m_six, .ref h_m_seven, .ref h_m_eight, .ref h_m_work, .ref h_m_small, .int m_rows, .int m_columns, .int m_prime, .ref h_m_pivots, .ref h_m_freeRows, .ref h_m_freeColumns, .ref h_m_minor, .ref h_m_smallMinor, .ref h_m_fields, .ref h_m_rowCounts, .ref h_m_elements, .ref h_m_numbers, .ref h_m_known, .ref h_m_ranks, .ref h_m_rankOf, .ref h_m_signOf, .ref h_m_order, .ref h_m_sizes, .ref h_m_coefficients, .ref h_m_choices, .ref h_m_sorted])), (h_m_rankOf, .inl (cB, m_rankOf_n, .inl m_rankOf)), (h_m_sizes, .inl (cI, m_sizes_n, .inl m_sizes)), (h_m_ranks, .inl (cI, m_ranks_n, .inl m_ranks)), (h_m_elements, .inl (cI, m_elements_n, .inl m_elements))] := hD.sub [3, 0, 1, 2, 4] (by decide) rfl
  refine lv_iload_n hx hb d_Mo_dualRank_20 rfl (lv_at hl 2 rfl) ?_
  refine lv_iconst (v := (-1)) hx hb d_Mo_dualRank_21 (by decide) ?_
  refine lv_ixor hx hb d_Mo_dualRank_22 ?_
  refine lv_iand hx hb d_Mo_dualRank_23 ?_
  obtain ⟨r_5, hc_6, h⟩ := ck_b1_s h
  have hPc := hP.sub (ws' := [(h_m, .inr (6, [.ref h_m_one, .ref h_m_two, .ref h_m_three, .ref h_m_four, .ref h_m_five, .ref h_m_six, .ref h_m_seven, .ref h_m_eight, .ref h_m_work, .ref h_m_small, .int m_rows, .int m_columns, .int m_prime, .ref h_m_pivots, .ref h_m_freeRows, .ref h_m_freeColumns, .ref h_m_minor, .ref h_m_smallMinor, .ref h_m_fields, .ref h_m_rowCounts, .ref h_m_elements, .ref h_m_numbers, .ref h_m_known, .ref h_m_ranks, .ref h_m_rankOf, .ref h_m_signOf, .ref h_m_order, .ref h_m_sizes, .ref h_m_coefficients, .ref h_m_choices, .ref h_m_sorted])), (h_m_rankOf, .inl (cB, m_rankOf_n, .inl m_rankOf))]) [0, 1] rfl
  have hDc := hD.sub (ws' := [(h_m, .inr (6, [.ref h_m_one, .ref h_m_two, .ref h_m_three, .ref h_m_four, .ref h_m_five, .ref h_m_six, .ref h_m_seven, .ref h_m_eight, .ref h_m_work, .ref h_m_small, .int m_rows, .int m_columns, .int m_prime, .ref h_m_pivots, .ref h_m_freeRows, .ref h_m_freeColumns, .ref h_m_minor, .ref h_m_smallMinor, .ref h_m_fields, .ref h_m_rowCounts, .ref h_m_elements, .ref h_m_numbers, .ref h_m_known, .ref h_m_ranks, .ref h_m_rankOf, .ref h_m_signOf, .ref h_m_order, .ref h_m_sizes, .ref h_m_coefficients, .ref h_m_choices, .ref h_m_sorted])), (h_m_rankOf, .inl (cB, m_rankOf_n, .inl m_rankOf))]) [0, 1] (by decide) rfl
  have hFc := va_free (wc := [(h_m, .inr (6, [.ref h_m_one, .ref h_m_two, .ref h_m_three, .ref h_m_four, .ref h_m_five, .ref h_m_six, .ref h_m_seven, .ref h_m_eight, .ref h_m_work, .ref h_m_small, .int m_rows, .int m_columns, .int m_prime, .ref h_m_pivots, .ref h_m_freeRows, .ref h_m_freeColumns, .ref h_m_minor, .ref h_m_smallMinor, .ref h_m_fields, .ref h_m_rowCounts, .ref h_m_elements, .ref h_m_numbers, .ref h_m_known, .ref h_m_ranks, .ref h_m_rankOf, .ref h_m_signOf, .ref h_m_order, .ref h_m_sizes, .ref h_m_coefficients, .ref h_m_choices, .ref h_m_sorted])), (h_m_rankOf, .inl (cB, m_rankOf_n, .inl m_rankOf))]) hD hS hA [0, 1] rfl
  refine va_calli (va_runV (As := [.int k0, .int (r_3 &&& (set0 ^^^ (-1)))]) (rest := [.int ((m_sizes set0.toNatClampNeg) - (m_ranks k0.toNatClampNeg))]) ⟨hx, hb, hml, hown, hts⟩ (c_R_r l dC dI cI cJ cB cZ cT cN H.size h_m h_m_one h_m_two h_m_three h_m_four h_m_five h_m_six h_m_seven h_m_eight h_m_work h_m_small h_m_pivots h_m_freeRows h_m_freeColumns h_m_minor h_m_smallMinor h_m_fields h_m_rowCounts h_m_elements h_m_numbers h_m_known h_m_ranks h_m_rankOf h_m_signOf h_m_order h_m_sizes h_m_coefficients h_m_choices h_m_sorted m_rows m_columns m_prime m_rankOf_n m_rankOf k0 (r_3 &&& (set0 ^^^ (-1))) _ hc_6) (cwV 2 hts (tb_V tw_602 tw_604 tp_35 tw_6 tw_605) rfl rfl rfl (by decide +kernel) ⟨Nat.le_of_ble_eq_true rfl, Nat.le_of_ble_eq_true rfl⟩) ⟨fun a U g mk q => by obtain ⟨q0, q1, qP, qK, qN, qD⟩ := q; exact ⟨q0, q1, qP, va_K.moved (u := U) (U := U.calling g mk a) (Vm.Alike.refl U.vm) qK, qN.same rfl, qD⟩, va_recv hK hPc (ci := 6) (q0 := 0) rfl rfl, fun U hU hW => ⟨rfl, by rw [hU], by rw [hU]; exact hPc, va_K.moved hW.alike hK, hN.warm hW, hDc.weaken (fun _ _ _ _ => trivial)⟩⟩ rfl rfl hl.1 rfl (lv_room (Nat.le_of_ble_eq_true rfl)) d_Mo_dualRank_24 ⟨Nat.zero_le _, Nat.zero_le _⟩) hS (fun q _ h => hFc q h) hFc (fun rr u t H1 locs ht hvm hw hB hz1 hk1 hS => ?_)
  replace hw := hw.symm
  subst hw
  obtain ⟨hP1, -, hD1⟩ := hB
  rw [ht] at hP1
  obtain ⟨hP, hD⟩ := va_join (wr := [(h_m_sizes, .inl (cI, m_sizes_n, .inl m_sizes)), (h_m_ranks, .inl (cI, m_ranks_n, .inl m_ranks)), (h_m_elements, .inl (cI, m_elements_n, .inl m_elements))]) (w1 := [(h_m, .inr (6, [.ref h_m_one, .ref h_m_two, .ref h_m_three, .ref h_m_four, .ref h_m_five, .ref h_m_six, .ref h_m_seven, .ref h_m_eight, .ref h_m_work, .ref h_m_small, .int m_rows, .int m_columns, .int m_prime, .ref h_m_pivots, .ref h_m_freeRows, .ref h_m_freeColumns, .ref h_m_minor, .ref h_m_smallMinor, .ref h_m_fields, .ref h_m_rowCounts, .ref h_m_elements, .ref h_m_numbers, .ref h_m_known, .ref h_m_ranks, .ref h_m_rankOf, .ref h_m_signOf, .ref h_m_order, .ref h_m_sizes, .ref h_m_coefficients, .ref h_m_choices, .ref h_m_sorted])), (h_m_rankOf, .inl (cB, m_rankOf_n, .inl m_rankOf))]) hP hD [0, 1] [2, 3, 4] rfl rfl (by decide) (by decide) hk1 hFc hP1 hD1
  generalize H1 = H at hP hS ⊢
  have hP : va_P (dC, dI) cl_all [(h_m, .inr (6, [.ref h_m_one, .ref h_m_two, .ref h_m_three, .ref h_m_four, .ref h_m_five, .ref h_m_six, .ref h_m_seven, .ref h_m_eight, .ref h_m_work, .ref h_m_small, .int m_rows, .int m_columns, .int m_prime, .ref h_m_pivots, .ref h_m_freeRows, .ref h_m_freeColumns, .ref h_m_minor, .ref h_m_smallMinor, .ref h_m_fields, .ref h_m_rowCounts, .ref h_m_elements, .ref h_m_numbers, .ref h_m_known, .ref h_m_ranks, .ref h_m_rankOf, .ref h_m_signOf, .ref h_m_order, .ref h_m_sizes, .ref h_m_coefficients, .ref h_m_choices, .ref h_m_sorted])), (h_m_rankOf, .inl (cB, m_rankOf_n, .inl m_rankOf)), (h_m_sizes, .inl (cI, m_sizes_n, .inl m_sizes)), (h_m_ranks, .inl (cI, m_ranks_n, .inl m_ranks)), (h_m_elements, .inl (cI, m_elements_n, .inl m_elements))] H := hP.sub [3, 4, 0, 1, 2] rfl
  have hD : va_D A [(h_m, .inr (6, [.ref h_m_one, .ref h_m_two, .ref h_m_three, .ref h_m_four, .ref h_m_five, .ref h_m_six, .ref h_m_seven, .ref h_m_eight, .ref h_m_work, .ref h_m_small, .int m_rows, .int m_columns, .int m_prime, .ref h_m_pivots, .ref h_m_freeRows, .ref h_m_freeColumns, .ref h_m_minor, .ref h_m_smallMinor, .ref h_m_fields, .ref h_m_rowCounts, .ref h_m_elements, .ref h_m_numbers, .ref h_m_known, .ref h_m_ranks, .ref h_m_rankOf, .ref h_m_signOf, .ref h_m_order, .ref h_m_sizes, .ref h_m_coefficients, .ref h_m_choices, .ref h_m_sorted])), (h_m_rankOf, .inl (cB, m_rankOf_n, .inl m_rankOf)), (h_m_sizes, .inl (cI, m_sizes_n, .inl m_sizes)), (h_m_ranks, .inl (cI, m_ranks_n, .inl m_ranks)), (h_m_elements, .inl (cI, m_elements_n, .inl m_elements))] := hD.sub [3, 4, 0, 1, 2] (by decide) rfl
  refine lv_iadd hx hb d_Mo_dualRank_27 ?_
  obtain rfl := Option.some.inj h
  subst hQ
  exact W.iret (v := (((m_sizes set0.toNatClampNeg) - (m_ranks k0.toNatClampNeg)) + r_5)) hx hb hr (fun t ht hW => ⟨⟨(((m_sizes set0.toNatClampNeg) - (m_ranks k0.toNatClampNeg)) + r_5), (), rfl, rfl, by rw [ht]; exact hP, va_K.moved hW.alike hK, hD⟩, hS.F ht⟩) hS.2.2 d_Mo_dualRank_28
theorem d_Mo_isCircuit_0 : decode prog_7_method_30_code 0 = .ok (.iload_n 3, 1) := by decide +kernel
theorem d_Mo_isCircuit_1 : decode prog_7_method_30_code 1 = .ok (.ifCond .eq 12, 3) := by decide +kernel
theorem d_Mo_isCircuit_4 : decode prog_7_method_30_code 4 = .ok (.aload_n 0, 1) := by decide +kernel
theorem d_Mo_isCircuit_5 : decode prog_7_method_30_code 5 = .ok (.iload_n 1, 1) := by decide +kernel
theorem d_Mo_isCircuit_6 : decode prog_7_method_30_code 6 = .ok (.iload_n 2, 1) := by decide +kernel
theorem d_Mo_isCircuit_7 : decode prog_7_method_30_code 7 = .ok (.invokevirtual 229, 3) := by decide +kernel
theorem d_Mo_isCircuit_10 : decode prog_7_method_30_code 10 = .ok (.goto 9, 3) := by decide +kernel
theorem d_Mo_isCircuit_13 : decode prog_7_method_30_code 13 = .ok (.aload_n 0, 1) := by decide +kernel
theorem d_Mo_isCircuit_14 : decode prog_7_method_30_code 14 = .ok (.iload_n 1, 1) := by decide +kernel
theorem d_Mo_isCircuit_15 : decode prog_7_method_30_code 15 = .ok (.iload_n 2, 1) := by decide +kernel
theorem d_Mo_isCircuit_16 : decode prog_7_method_30_code 16 = .ok (.invokevirtual 222, 3) := by decide +kernel
theorem d_Mo_isCircuit_19 : decode prog_7_method_30_code 19 = .ok (.aload_n 0, 1) := by decide +kernel
theorem d_Mo_isCircuit_20 : decode prog_7_method_30_code 20 = .ok (.getfield 182, 3) := by decide +kernel
theorem d_Mo_isCircuit_23 : decode prog_7_method_30_code 23 = .ok (.iload_n 2, 1) := by decide +kernel
theorem d_Mo_isCircuit_24 : decode prog_7_method_30_code 24 = .ok (.iaload, 1) := by decide +kernel
theorem d_Mo_isCircuit_25 : decode prog_7_method_30_code 25 = .ok (.if_icmp .ge 7, 3) := by decide +kernel
theorem d_Mo_isCircuit_28 : decode prog_7_method_30_code 28 = .ok (.iconst 1, 1) := by decide +kernel
theorem d_Mo_isCircuit_29 : decode prog_7_method_30_code 29 = .ok (.goto 4, 3) := by decide +kernel
theorem d_Mo_isCircuit_32 : decode prog_7_method_30_code 32 = .ok (.iconst 0, 1) := by decide +kernel
theorem d_Mo_isCircuit_33 : decode prog_7_method_30_code 33 = .ok (.istore 4, 2) := by decide +kernel
theorem d_Mo_isCircuit_35 : decode prog_7_method_30_code 35 = .ok (.iconst 0, 1) := by decide +kernel
theorem d_Mo_isCircuit_36 : decode prog_7_method_30_code 36 = .ok (.istore 5, 2) := by decide +kernel
theorem d_Mo_isCircuit_38 : decode prog_7_method_30_code 38 = .ok (.iload 5, 2) := by decide +kernel
theorem d_Mo_isCircuit_40 : decode prog_7_method_30_code 40 = .ok (.aload_n 0, 1) := by decide +kernel
theorem d_Mo_isCircuit_41 : decode prog_7_method_30_code 41 = .ok (.getfield 159, 3) := by decide +kernel
theorem d_Mo_isCircuit_44 : decode prog_7_method_30_code 44 = .ok (.iload_n 1, 1) := by decide +kernel
theorem d_Mo_isCircuit_45 : decode prog_7_method_30_code 45 = .ok (.iaload, 1) := by decide +kernel
theorem d_Mo_isCircuit_46 : decode prog_7_method_30_code 46 = .ok (.if_icmp .ge 70, 3) := by decide +kernel
theorem d_Mo_isCircuit_49 : decode prog_7_method_30_code 49 = .ok (.iload 4, 2) := by decide +kernel
theorem d_Mo_isCircuit_51 : decode prog_7_method_30_code 51 = .ok (.ifCond .eq 65, 3) := by decide +kernel
theorem d_Mo_isCircuit_54 : decode prog_7_method_30_code 54 = .ok (.iload_n 2, 1) := by decide +kernel
theorem d_Mo_isCircuit_55 : decode prog_7_method_30_code 55 = .ok (.iload 5, 2) := by decide +kernel
theorem d_Mo_isCircuit_57 : decode prog_7_method_30_code 57 = .ok (.ishr, 1) := by decide +kernel
theorem d_Mo_isCircuit_58 : decode prog_7_method_30_code 58 = .ok (.iconst 1, 1) := by decide +kernel
theorem d_Mo_isCircuit_59 : decode prog_7_method_30_code 59 = .ok (.iand, 1) := by decide +kernel
theorem d_Mo_isCircuit_60 : decode prog_7_method_30_code 60 = .ok (.iconst 1, 1) := by decide +kernel
theorem d_Mo_isCircuit_61 : decode prog_7_method_30_code 61 = .ok (.if_icmp .ne 49, 3) := by decide +kernel
theorem d_Mo_isCircuit_64 : decode prog_7_method_30_code 64 = .ok (.iload_n 2, 1) := by decide +kernel
theorem d_Mo_isCircuit_65 : decode prog_7_method_30_code 65 = .ok (.iconst 1, 1) := by decide +kernel
theorem d_Mo_isCircuit_66 : decode prog_7_method_30_code 66 = .ok (.iload 5, 2) := by decide +kernel
theorem d_Mo_isCircuit_68 : decode prog_7_method_30_code 68 = .ok (.ishl, 1) := by decide +kernel
theorem d_Mo_isCircuit_69 : decode prog_7_method_30_code 69 = .ok (.ixor, 1) := by decide +kernel
theorem d_Mo_isCircuit_70 : decode prog_7_method_30_code 70 = .ok (.istore 6, 2) := by decide +kernel
theorem d_Mo_isCircuit_72 : decode prog_7_method_30_code 72 = .ok (.iload_n 3, 1) := by decide +kernel
theorem d_Mo_isCircuit_73 : decode prog_7_method_30_code 73 = .ok (.ifCond .eq 13, 3) := by decide +kernel
theorem d_Mo_isCircuit_76 : decode prog_7_method_30_code 76 = .ok (.aload_n 0, 1) := by decide +kernel
theorem d_Mo_isCircuit_77 : decode prog_7_method_30_code 77 = .ok (.iload_n 1, 1) := by decide +kernel
theorem d_Mo_isCircuit_78 : decode prog_7_method_30_code 78 = .ok (.iload 6, 2) := by decide +kernel
theorem d_Mo_isCircuit_80 : decode prog_7_method_30_code 80 = .ok (.invokevirtual 229, 3) := by decide +kernel
theorem d_Mo_isCircuit_83 : decode prog_7_method_30_code 83 = .ok (.goto 10, 3) := by decide +kernel
theorem d_Mo_isCircuit_86 : decode prog_7_method_30_code 86 = .ok (.aload_n 0, 1) := by decide +kernel
theorem d_Mo_isCircuit_87 : decode prog_7_method_30_code 87 = .ok (.iload_n 1, 1) := by decide +kernel
theorem d_Mo_isCircuit_88 : decode prog_7_method_30_code 88 = .ok (.iload 6, 2) := by decide +kernel
theorem d_Mo_isCircuit_90 : decode prog_7_method_30_code 90 = .ok (.invokevirtual 222, 3) := by decide +kernel
theorem d_Mo_isCircuit_93 : decode prog_7_method_30_code 93 = .ok (.aload_n 0, 1) := by decide +kernel
theorem d_Mo_isCircuit_94 : decode prog_7_method_30_code 94 = .ok (.getfield 182, 3) := by decide +kernel
theorem d_Mo_isCircuit_97 : decode prog_7_method_30_code 97 = .ok (.iload 6, 2) := by decide +kernel
theorem d_Mo_isCircuit_99 : decode prog_7_method_30_code 99 = .ok (.iaload, 1) := by decide +kernel
theorem d_Mo_isCircuit_100 : decode prog_7_method_30_code 100 = .ok (.if_icmp .ne 7, 3) := by decide +kernel
theorem d_Mo_isCircuit_103 : decode prog_7_method_30_code 103 = .ok (.iconst 1, 1) := by decide +kernel
theorem d_Mo_isCircuit_104 : decode prog_7_method_30_code 104 = .ok (.goto 4, 3) := by decide +kernel
theorem d_Mo_isCircuit_107 : decode prog_7_method_30_code 107 = .ok (.iconst 0, 1) := by decide +kernel
theorem d_Mo_isCircuit_108 : decode prog_7_method_30_code 108 = .ok (.istore 4, 2) := by decide +kernel
theorem d_Mo_isCircuit_110 : decode prog_7_method_30_code 110 = .ok (.iinc 5 1, 3) := by decide +kernel
theorem d_Mo_isCircuit_113 : decode prog_7_method_30_code 113 = .ok (.goto (-75), 3) := by decide +kernel
theorem d_Mo_isCircuit_116 : decode prog_7_method_30_code 116 = .ok (.iload 4, 2) := by decide +kernel
theorem d_Mo_isCircuit_118 : decode prog_7_method_30_code 118 = .ok (.ireturn, 1) := by decide +kernel
def f_R_isCircuit (m_rankOf_n : Nat) (m_rankOf : Nat → Int32) (m_sizes_n : Nat) (m_sizes : Nat → Int32) (m_ranks_n : Nat) (m_ranks : Nat → Int32) (m_elements_n : Nat) (m_elements : Nat → Int32) (k0 : Int32) (set0 : Int32) (dual0 : Int32) : Option (Int32) :=
  ck_jn (fun (s0_1 : Int32) => ck_in set0 m_sizes_n <| ck_jn (fun (s0_3 : Int32) => lo2 (fun k_38 (v5_4 : Int32) (v4_5 : Int32) => ck_in k0 m_elements_n <| ck_if ((m_elements k0.toNatClampNeg) ≤ v5_4) (ck_z v4_5 <| some v4_5) (ck_if (v4_5 = 0) (ck_z v4_5 <| some v4_5) (ck_jn (fun (v4_11 : Int32) => ck_nm (v5_4 + 1) <| fun x_12 => k_38 x_12 v4_11) <| fun k_110 => ck_if (((set0 >>> (v5_4 &&& 31)) &&& 1) = 1) (ck_nm (set0 ^^^ ((1 : Int32) <<< (v5_4 &&& 31))) <| fun x_14 => ck_jn (fun (s0_15 : Int32) => ck_in x_14 m_sizes_n <| ck_jn (fun (s0_17 : Int32) => k_110 s0_17) <| fun k_108 => ck_if (s0_15 = (m_sizes x_14.toNatClampNeg)) (k_108 1) (k_108 0)) <| fun k_93 => ck_if (dual0 = 0) (ck_b1 (f_R_r m_rankOf_n m_rankOf k0 x_14) <| fun r_20 => k_93 r_20) (ck_b1 (f_R_dualRank m_rankOf_n m_rankOf m_sizes_n m_sizes m_ranks_n m_ranks m_elements_n m_elements k0 x_14) <| fun r_22 => k_93 r_22)) (k_110 v4_5)))) ck_F 0 s0_3) <| fun k_33 => ck_if ((m_sizes set0.toNatClampNeg) ≤ s0_1) (k_33 0) (k_33 1)) <| fun k_19 => ck_if (dual0 = 0) (ck_b1 (f_R_r m_rankOf_n m_rankOf k0 set0) <| fun r_26 => k_19 r_26) (ck_b1 (f_R_dualRank m_rankOf_n m_rankOf m_sizes_n m_sizes m_ranks_n m_ranks m_elements_n m_elements k0 set0) <| fun r_28 => k_19 r_28)
set_option maxHeartbeats 4000000 in
set_option maxRecDepth 100000 in
theorem c_R_isCircuit (l : Launch) (dC : Nat → ClassId) (dI : Nat → Nat → Nat) (cI cJ cB cZ cT cN : ClassId) (sz : Nat) (h_m : Nat) (h_m_one : Nat) (h_m_two : Nat) (h_m_three : Nat) (h_m_four : Nat) (h_m_five : Nat) (h_m_six : Nat) (h_m_seven : Nat) (h_m_eight : Nat) (h_m_work : Nat) (h_m_small : Nat) (h_m_pivots : Nat) (h_m_freeRows : Nat) (h_m_freeColumns : Nat) (h_m_minor : Nat) (h_m_smallMinor : Nat) (h_m_fields : Nat) (h_m_rowCounts : Nat) (h_m_elements : Nat) (h_m_numbers : Nat) (h_m_known : Nat) (h_m_ranks : Nat) (h_m_rankOf : Nat) (h_m_signOf : Nat) (h_m_order : Nat) (h_m_sizes : Nat) (h_m_coefficients : Nat) (h_m_choices : Nat) (h_m_sorted : Nat) (m_rows : Int32) (m_columns : Int32) (m_prime : Int32) (m_rankOf_n : Nat) (m_rankOf : Nat → Int32) (m_sizes_n : Nat) (m_sizes : Nat → Int32) (m_ranks_n : Nat) (m_ranks : Nat → Int32) (m_elements_n : Nat) (m_elements : Nat → Int32) (k0 : Int32) (set0 : Int32) (dual0 : Int32) (r : Int32) (h : f_R_isCircuit m_rankOf_n m_rankOf m_sizes_n m_sizes m_ranks_n m_ranks m_elements_n m_elements k0 set0 dual0 = some r) : Met l y_Mo_isCircuit w_Mo_isCircuit ({ frames := 2, cells := 0, slots := 0, locals := 44 } : Room) (va_Pc [.ref h_m, .int k0, .int set0, .int dual0] (fun U => U.heap.size = sz ∧ va_P (dC, dI) cl_all [(h_m, .inr (6, [.ref h_m_one, .ref h_m_two, .ref h_m_three, .ref h_m_four, .ref h_m_five, .ref h_m_six, .ref h_m_seven, .ref h_m_eight, .ref h_m_work, .ref h_m_small, .int m_rows, .int m_columns, .int m_prime, .ref h_m_pivots, .ref h_m_freeRows, .ref h_m_freeColumns, .ref h_m_minor, .ref h_m_smallMinor, .ref h_m_fields, .ref h_m_rowCounts, .ref h_m_elements, .ref h_m_numbers, .ref h_m_known, .ref h_m_ranks, .ref h_m_rankOf, .ref h_m_signOf, .ref h_m_order, .ref h_m_sizes, .ref h_m_coefficients, .ref h_m_choices, .ref h_m_sorted])), (h_m_rankOf, .inl (cB, m_rankOf_n, .inl m_rankOf)), (h_m_sizes, .inl (cI, m_sizes_n, .inl m_sizes)), (h_m_ranks, .inl (cI, m_ranks_n, .inl m_ranks)), (h_m_elements, .inl (cI, m_elements_n, .inl m_elements))] U.heap ∧ va_K (dC, dI) cl_all [(cI, .int), (cJ, .long), (cB, .byte), (cZ, .boolean), (cT, .object "BasisWalk$Table"), (cN, .object "BasisWalkModel$Num")] U ∧ NW U ∧ va_D (fun _ => True) [(h_m, .inr (6, [.ref h_m_one, .ref h_m_two, .ref h_m_three, .ref h_m_four, .ref h_m_five, .ref h_m_six, .ref h_m_seven, .ref h_m_eight, .ref h_m_work, .ref h_m_small, .int m_rows, .int m_columns, .int m_prime, .ref h_m_pivots, .ref h_m_freeRows, .ref h_m_freeColumns, .ref h_m_minor, .ref h_m_smallMinor, .ref h_m_fields, .ref h_m_rowCounts, .ref h_m_elements, .ref h_m_numbers, .ref h_m_known, .ref h_m_ranks, .ref h_m_rankOf, .ref h_m_signOf, .ref h_m_order, .ref h_m_sizes, .ref h_m_coefficients, .ref h_m_choices, .ref h_m_sorted])), (h_m_rankOf, .inl (cB, m_rankOf_n, .inl m_rankOf)), (h_m_sizes, .inl (cI, m_sizes_n, .inl m_sizes)), (h_m_ranks, .inl (cI, m_ranks_n, .inl m_ranks)), (h_m_elements, .inl (cI, m_elements_n, .inl m_elements))])) (va_Qi (fun (v : Int32) (_ : Unit) => v = r) (fun (u : Unit) (t : State) => va_P (dC, dI) cl_all [(h_m, .inr (6, [.ref h_m_one, .ref h_m_two, .ref h_m_three, .ref h_m_four, .ref h_m_five, .ref h_m_six, .ref h_m_seven, .ref h_m_eight, .ref h_m_work, .ref h_m_small, .int m_rows, .int m_columns, .int m_prime, .ref h_m_pivots, .ref h_m_freeRows, .ref h_m_freeColumns, .ref h_m_minor, .ref h_m_smallMinor, .ref h_m_fields, .ref h_m_rowCounts, .ref h_m_elements, .ref h_m_numbers, .ref h_m_known, .ref h_m_ranks, .ref h_m_rankOf, .ref h_m_signOf, .ref h_m_order, .ref h_m_sizes, .ref h_m_coefficients, .ref h_m_choices, .ref h_m_sorted])), (h_m_rankOf, .inl (cB, m_rankOf_n, .inl m_rankOf)), (h_m_sizes, .inl (cI, m_sizes_n, .inl m_sizes)), (h_m_ranks, .inl (cI, m_ranks_n, .inl m_ranks)), (h_m_elements, .inl (cI, m_elements_n, .inl m_elements))] t.heap ∧ va_K (dC, dI) cl_all [(cI, .int), (cJ, .long), (cB, .byte), (cZ, .boolean), (cT, .object "BasisWalk$Table"), (cN, .object "BasisWalkModel$Num")] t ∧ va_D (va_A [(h_m, .inr (6, [.ref h_m_one, .ref h_m_two, .ref h_m_three, .ref h_m_four, .ref h_m_five, .ref h_m_six, .ref h_m_seven, .ref h_m_eight, .ref h_m_work, .ref h_m_small, .int m_rows, .int m_columns, .int m_prime, .ref h_m_pivots, .ref h_m_freeRows, .ref h_m_freeColumns, .ref h_m_minor, .ref h_m_smallMinor, .ref h_m_fields, .ref h_m_rowCounts, .ref h_m_elements, .ref h_m_numbers, .ref h_m_known, .ref h_m_ranks, .ref h_m_rankOf, .ref h_m_signOf, .ref h_m_order, .ref h_m_sizes, .ref h_m_coefficients, .ref h_m_choices, .ref h_m_sorted])), (h_m_rankOf, .inl (cB, m_rankOf_n, .inl m_rankOf)), (h_m_sizes, .inl (cI, m_sizes_n, .inl m_sizes)), (h_m_ranks, .inl (cI, m_ranks_n, .inl m_ranks)), (h_m_elements, .inl (cI, m_elements_n, .inl m_elements))] sz) [(h_m, .inr (6, [.ref h_m_one, .ref h_m_two, .ref h_m_three, .ref h_m_four, .ref h_m_five, .ref h_m_six, .ref h_m_seven, .ref h_m_eight, .ref h_m_work, .ref h_m_small, .int m_rows, .int m_columns, .int m_prime, .ref h_m_pivots, .ref h_m_freeRows, .ref h_m_freeColumns, .ref h_m_minor, .ref h_m_smallMinor, .ref h_m_fields, .ref h_m_rowCounts, .ref h_m_elements, .ref h_m_numbers, .ref h_m_known, .ref h_m_ranks, .ref h_m_rankOf, .ref h_m_signOf, .ref h_m_order, .ref h_m_sizes, .ref h_m_coefficients, .ref h_m_choices, .ref h_m_sorted])), (h_m_rankOf, .inl (cB, m_rankOf_n, .inl m_rankOf)), (h_m_sizes, .inl (cI, m_sizes_n, .inl m_sizes)), (h_m_ranks, .inl (cI, m_ranks_n, .inl m_ranks)), (h_m_elements, .inl (cI, m_elements_n, .inl m_elements))]) (va_A [(h_m, .inr (6, [.ref h_m_one, .ref h_m_two, .ref h_m_three, .ref h_m_four, .ref h_m_five, .ref h_m_six, .ref h_m_seven, .ref h_m_eight, .ref h_m_work, .ref h_m_small, .int m_rows, .int m_columns, .int m_prime, .ref h_m_pivots, .ref h_m_freeRows, .ref h_m_freeColumns, .ref h_m_minor, .ref h_m_smallMinor, .ref h_m_fields, .ref h_m_rowCounts, .ref h_m_elements, .ref h_m_numbers, .ref h_m_known, .ref h_m_ranks, .ref h_m_rankOf, .ref h_m_signOf, .ref h_m_order, .ref h_m_sizes, .ref h_m_coefficients, .ref h_m_choices, .ref h_m_sorted])), (h_m_rankOf, .inl (cB, m_rankOf_n, .inl m_rankOf)), (h_m_sizes, .inl (cI, m_sizes_n, .inl m_sizes)), (h_m_ranks, .inl (cI, m_ranks_n, .inl m_ranks)), (h_m_elements, .inl (cI, m_elements_n, .inl m_elements))] sz)) 0 0 (va_A [(h_m, .inr (6, [.ref h_m_one, .ref h_m_two, .ref h_m_three, .ref h_m_four, .ref h_m_five, .ref h_m_six, .ref h_m_seven, .ref h_m_eight, .ref h_m_work, .ref h_m_small, .int m_rows, .int m_columns, .int m_prime, .ref h_m_pivots, .ref h_m_freeRows, .ref h_m_freeColumns, .ref h_m_minor, .ref h_m_smallMinor, .ref h_m_fields, .ref h_m_rowCounts, .ref h_m_elements, .ref h_m_numbers, .ref h_m_known, .ref h_m_ranks, .ref h_m_rankOf, .ref h_m_signOf, .ref h_m_order, .ref h_m_sizes, .ref h_m_coefficients, .ref h_m_choices, .ref h_m_sorted])), (h_m_rankOf, .inl (cB, m_rankOf_n, .inl m_rankOf)), (h_m_sizes, .inl (cI, m_sizes_n, .inl m_sizes)), (h_m_ranks, .inl (cI, m_ranks_n, .inl m_ranks)), (h_m_elements, .inl (cI, m_elements_n, .inl m_elements))] sz) := by
  refine Met.ofW (cc := prog_7_method_30_code) (maxL := 7) (ret := (Option.some Jvm.ClassFile.FieldType.boolean)) (by decide) rfl ?_
  intro p e s m args below meth c s₁ B hml hv
  obtain ⟨hAR, hsz, hP, hK, hN, hD0⟩ := hv
  have hx := B.exec
  have hb := B.bytes
  have hr := B.returns
  have hts := atoms_spec (ws := w_Mo_isCircuit) B.pre
  have hown : s.vm.findClass "BasisWalkModel" = some m.cls := findClass_of_methodNamed B.named
  have hlocks := B.notSynchronized
  clear B
  subst hsz
  have hD := hD0.self (sz := s.heap.size)
  generalize hAe : va_A [(h_m, .inr (6, [.ref h_m_one, .ref h_m_two, .ref h_m_three, .ref h_m_four, .ref h_m_five, .ref h_m_six, .ref h_m_seven, .ref h_m_eight, .ref h_m_work, .ref h_m_small, .int m_rows, .int m_columns, .int m_prime, .ref h_m_pivots, .ref h_m_freeRows, .ref h_m_freeColumns, .ref h_m_minor, .ref h_m_smallMinor, .ref h_m_fields, .ref h_m_rowCounts, .ref h_m_elements, .ref h_m_numbers, .ref h_m_known, .ref h_m_ranks, .ref h_m_rankOf, .ref h_m_signOf, .ref h_m_order, .ref h_m_sizes, .ref h_m_coefficients, .ref h_m_choices, .ref h_m_sorted])), (h_m_rankOf, .inl (cB, m_rankOf_n, .inl m_rankOf)), (h_m_sizes, .inl (cI, m_sizes_n, .inl m_sizes)), (h_m_ranks, .inl (cI, m_ranks_n, .inl m_ranks)), (h_m_elements, .inl (cI, m_elements_n, .inl m_elements))] s.heap.size = A at hD ⊢
  have hA : ∀ q : Nat, s.heap.size ≤ q → A q := fun q h => by rw [← hAe]; exact Or.inr h
  clear hAe hD0
  have hS : va_S A s.heap s.heap [] := va_S.rf
  have hl := lv_entry ([.ref h_m, .int k0, .int set0, .int dual0]) (n := 7) (Nat.le_of_ble_eq_true rfl)
  subst hAR
  rw [lg_entry_eq]
  generalize (lg_sl ([.ref h_m, .int k0, .int set0, .int dual0]) ++ List.replicate (7 - (lg_sl ([.ref h_m, .int k0, .int set0, .int dual0])).length) Slot.unset).toArray = ls at hl ⊢
  have hl : lv_has ls 7 [(0, .ref h_m), (1, .int k0), (2, .int set0), (3, .int dual0)] := hl
  change W p l e ({ frames := 2, cells := 0, slots := 0, locals := 44 } : Room) s m _ below meth c s.heap [] 0 0 _ _
  generalize hARe : ([.ref h_m, .int k0, .int set0, .int dual0] : List Value).toArray = AR at hts ⊢
  clear hARe
  generalize hQ : MQ below _ AR s 0 0 A = QQ
  have fl0 := hts _ (List.mem_cons_of_mem _ tw_382)
  have iw1 := (fun w hw => List.mem_cons_of_mem _ (in_Mo w hw) : ∀ w ∈ u_ws "BasisWalkModel" T_Mo 31, w ∈ w_Mo_isCircuit)
  have fl2 := hts _ (List.mem_cons_of_mem _ tw_375)
  obtain ⟨H, hHe⟩ : ∃ H : Heap, H = s.heap := ⟨_, rfl⟩
  rw [← hHe] at hP ⊢
  replace hS : va_S A s.heap H [] := by rw [hHe]; exact va_S.rf
  clear hHe
  unfold f_R_isCircuit at h
  refine lv_iload_n hx hb d_Mo_isCircuit_0 rfl (lv_at hl 3 rfl) ?_
  refine ck_jn_W h (fun k' => ∀ (s0_1 : Int32), k' s0_1 = some r → ∀ (H : Heap) (locs : List Loc), va_P (dC, dI) cl_all [(h_m, .inr (6, [.ref h_m_one, .ref h_m_two, .ref h_m_three, .ref h_m_four, .ref h_m_five, .ref h_m_six, .ref h_m_seven, .ref h_m_eight, .ref h_m_work, .ref h_m_small, .int m_rows, .int m_columns, .int m_prime, .ref h_m_pivots, .ref h_m_freeRows, .ref h_m_freeColumns, .ref h_m_minor, .ref h_m_smallMinor, .ref h_m_fields, .ref h_m_rowCounts, .ref h_m_elements, .ref h_m_numbers, .ref h_m_known, .ref h_m_ranks, .ref h_m_rankOf, .ref h_m_signOf, .ref h_m_order, .ref h_m_sizes, .ref h_m_coefficients, .ref h_m_choices, .ref h_m_sorted])), (h_m_rankOf, .inl (cB, m_rankOf_n, .inl m_rankOf)), (h_m_sizes, .inl (cI, m_sizes_n, .inl m_sizes)), (h_m_ranks, .inl (cI, m_ranks_n, .inl m_ranks)), (h_m_elements, .inl (cI, m_elements_n, .inl m_elements))] H → va_D A [(h_m, .inr (6, [.ref h_m_one, .ref h_m_two, .ref h_m_three, .ref h_m_four, .ref h_m_five, .ref h_m_six, .ref h_m_seven, .ref h_m_eight, .ref h_m_work, .ref h_m_small, .int m_rows, .int m_columns, .int m_prime, .ref h_m_pivots, .ref h_m_freeRows, .ref h_m_freeColumns, .ref h_m_minor, .ref h_m_smallMinor, .ref h_m_fields, .ref h_m_rowCounts, .ref h_m_elements, .ref h_m_numbers, .ref h_m_known, .ref h_m_ranks, .ref h_m_rankOf, .ref h_m_signOf, .ref h_m_order, .ref h_m_sizes, .ref h_m_coefficients, .ref h_m_choices, .ref h_m_sorted])), (h_m_rankOf, .inl (cB, m_rankOf_n, .inl m_rankOf)), (h_m_sizes, .inl (cI, m_sizes_n, .inl m_sizes)), (h_m_ranks, .inl (cI, m_ranks_n, .inl m_ranks)), (h_m_elements, .inl (cI, m_elements_n, .inl m_elements))] → va_S A s.heap H locs → ∀ ls : Array Slot, lv_has ls 7 [(0, .ref h_m), (1, .int k0), (2, .int set0), (3, .int dual0)] → W p l e ({ frames := 2, cells := 0, slots := 0, locals := 44 } : Room) s m AR below meth c H locs 0 0 QQ (F0 m 19 ls [.int s0_1])) ?_ ?_
  · intro s0_1 h H locs hP hD hS ls hl
    refine lv_aload_n hx hb d_Mo_isCircuit_19 rfl (lv_at hl 0 rfl) ?_
    refine va_get (D := (dC, dI)) (ci := 6) (v := .ref h_m_sizes) (C := "BasisWalkModel") (T := T_Mo) (N := 31) hx hb hts iw1 hown hK hP 0 rfl rfl 27 (by decide) fl0 (fun _ h9 => h9) rfl d_Mo_isCircuit_20 ?_
    refine lv_iload_n hx hb d_Mo_isCircuit_23 rfl (lv_at hl 2 rfl) ?_
    obtain ⟨g_2, h⟩ := ck_in_s h
    refine va_iald hx hb hK hP 2 0 rfl rfl g_2 d_Mo_isCircuit_24 ?_
    refine ck_jn_W h (fun k' => ∀ (s0_3 : Int32), k' s0_3 = some r → ∀ (H : Heap) (locs : List Loc), va_P (dC, dI) cl_all [(h_m, .inr (6, [.ref h_m_one, .ref h_m_two, .ref h_m_three, .ref h_m_four, .ref h_m_five, .ref h_m_six, .ref h_m_seven, .ref h_m_eight, .ref h_m_work, .ref h_m_small, .int m_rows, .int m_columns, .int m_prime, .ref h_m_pivots, .ref h_m_freeRows, .ref h_m_freeColumns, .ref h_m_minor, .ref h_m_smallMinor, .ref h_m_fields, .ref h_m_rowCounts, .ref h_m_elements, .ref h_m_numbers, .ref h_m_known, .ref h_m_ranks, .ref h_m_rankOf, .ref h_m_signOf, .ref h_m_order, .ref h_m_sizes, .ref h_m_coefficients, .ref h_m_choices, .ref h_m_sorted])), (h_m_rankOf, .inl (cB, m_rankOf_n, .inl m_rankOf)), (h_m_sizes, .inl (cI, m_sizes_n, .inl m_sizes)), (h_m_ranks, .inl (cI, m_ranks_n, .inl m_ranks)), (h_m_elements, .inl (cI, m_elements_n, .inl m_elements))] H → va_D A [(h_m, .inr (6, [.ref h_m_one, .ref h_m_two, .ref h_m_three, .ref h_m_four, .ref h_m_five, .ref h_m_six, .ref h_m_seven, .ref h_m_eight, .ref h_m_work, .ref h_m_small, .int m_rows, .int m_columns, .int m_prime, .ref h_m_pivots, .ref h_m_freeRows, .ref h_m_freeColumns, .ref h_m_minor, .ref h_m_smallMinor, .ref h_m_fields, .ref h_m_rowCounts, .ref h_m_elements, .ref h_m_numbers, .ref h_m_known, .ref h_m_ranks, .ref h_m_rankOf, .ref h_m_signOf, .ref h_m_order, .ref h_m_sizes, .ref h_m_coefficients, .ref h_m_choices, .ref h_m_sorted])), (h_m_rankOf, .inl (cB, m_rankOf_n, .inl m_rankOf)), (h_m_sizes, .inl (cI, m_sizes_n, .inl m_sizes)), (h_m_ranks, .inl (cI, m_ranks_n, .inl m_ranks)), (h_m_elements, .inl (cI, m_elements_n, .inl m_elements))] → va_S A s.heap H locs → ∀ ls : Array Slot, lv_has ls 7 [(0, .ref h_m), (1, .int k0), (2, .int set0), (3, .int dual0)] → W p l e ({ frames := 2, cells := 0, slots := 0, locals := 44 } : Room) s m AR below meth c H locs 0 0 QQ (F0 m 33 ls [.int s0_3])) ?_ ?_
    · intro s0_3 h H locs hP hD hS ls hl
      refine lv_istore (lv' := [(4, .int s0_3), (0, .ref h_m), (1, .int k0), (2, .int set0), (3, .int dual0)]) hx hb d_Mo_isCircuit_33 hl (by decide) rfl (fun ls hl => ?_)
      refine lv_iconst (v := 0) hx hb d_Mo_isCircuit_35 (by decide) ?_
      refine lv_istore (lv' := [(5, .int 0), (4, .int s0_3), (0, .ref h_m), (1, .int k0), (2, .int set0), (3, .int dual0)]) hx hb d_Mo_isCircuit_36 hl (by decide) rfl (fun ls hl => ?_)
      refine lo2_W (r := r) (fun (v5_4 : Int32) (v4_5 : Int32) => ∀ (H : Heap) (locs : List Loc), va_P (dC, dI) cl_all [(h_m, .inr (6, [.ref h_m_one, .ref h_m_two, .ref h_m_three, .ref h_m_four, .ref h_m_five, .ref h_m_six, .ref h_m_seven, .ref h_m_eight, .ref h_m_work, .ref h_m_small, .int m_rows, .int m_columns, .int m_prime, .ref h_m_pivots, .ref h_m_freeRows, .ref h_m_freeColumns, .ref h_m_minor, .ref h_m_smallMinor, .ref h_m_fields, .ref h_m_rowCounts, .ref h_m_elements, .ref h_m_numbers, .ref h_m_known, .ref h_m_ranks, .ref h_m_rankOf, .ref h_m_signOf, .ref h_m_order, .ref h_m_sizes, .ref h_m_coefficients, .ref h_m_choices, .ref h_m_sorted])), (h_m_rankOf, .inl (cB, m_rankOf_n, .inl m_rankOf)), (h_m_sizes, .inl (cI, m_sizes_n, .inl m_sizes)), (h_m_ranks, .inl (cI, m_ranks_n, .inl m_ranks)), (h_m_elements, .inl (cI, m_elements_n, .inl m_elements))] H → va_D A [(h_m, .inr (6, [.ref h_m_one, .ref h_m_two, .ref h_m_three, .ref h_m_four, .ref h_m_five, .ref h_m_six, .ref h_m_seven, .ref h_m_eight, .ref h_m_work, .ref h_m_small, .int m_rows, .int m_columns, .int m_prime, .ref h_m_pivots, .ref h_m_freeRows, .ref h_m_freeColumns, .ref h_m_minor, .ref h_m_smallMinor, .ref h_m_fields, .ref h_m_rowCounts, .ref h_m_elements, .ref h_m_numbers, .ref h_m_known, .ref h_m_ranks, .ref h_m_rankOf, .ref h_m_signOf, .ref h_m_order, .ref h_m_sizes, .ref h_m_coefficients, .ref h_m_choices, .ref h_m_sorted])), (h_m_rankOf, .inl (cB, m_rankOf_n, .inl m_rankOf)), (h_m_sizes, .inl (cI, m_sizes_n, .inl m_sizes)), (h_m_ranks, .inl (cI, m_ranks_n, .inl m_ranks)), (h_m_elements, .inl (cI, m_elements_n, .inl m_elements))] → va_S A s.heap H locs → ∀ ls : Array Slot, lv_has ls 7 [(0, .ref h_m), (1, .int k0), (2, .int set0), (3, .int dual0), (4, .int v4_5), (5, .int v5_4)] → W p l e ({ frames := 2, cells := 0, slots := 0, locals := 44 } : Room) s m AR below meth c H locs 0 0 QQ (F0 m 38 ls [])) ?_ _ _ _ h _ _ hP hD hS _ (lv_sub hl [2, 3, 4, 5, 1, 0] rfl)
      intro k_38 v5_4 v4_5 J_38 h H locs hP hD hS ls hl
      refine lv_iload hx hb d_Mo_isCircuit_38 (lv_at hl 5 rfl) ?_
      refine lv_aload_n hx hb d_Mo_isCircuit_40 rfl (lv_at hl 0 rfl) ?_
      refine va_get (D := (dC, dI)) (ci := 6) (v := .ref h_m_elements) (C := "BasisWalkModel") (T := T_Mo) (N := 31) hx hb hts iw1 hown hK hP 0 rfl rfl 20 (by decide) fl2 (fun _ h9 => h9) rfl d_Mo_isCircuit_41 ?_
      refine lv_iload_n hx hb d_Mo_isCircuit_44 rfl (lv_at hl 1 rfl) ?_
      obtain ⟨g_6, h⟩ := ck_in_s h
      refine va_iald hx hb hK hP 4 0 rfl rfl g_6 d_Mo_isCircuit_45 ?_
      refine lv_icmp_ge (tgt := 116) hx hb d_Mo_isCircuit_46 (by decide) (fun c_7 => ?_) (fun c_7 => ?_)
      · replace h := ck_if_t h c_7
        refine lv_iload hx hb d_Mo_isCircuit_116 (lv_at hl 4 rfl) ?_
        obtain ⟨g_8, h⟩ := ck_z_s h
        obtain rfl := Option.some.inj h
        subst hQ
        exact W.zret (ty := .boolean) (v := v4_5) hx hb hr g_8.1 (fun t ht hW => ⟨⟨v4_5, (), rfl, rfl, by rw [ht]; exact hP, va_K.moved hW.alike hK, hD⟩, hS.F ht⟩) hS.2.2 d_Mo_isCircuit_118
      · replace h := ck_if_f h c_7
        refine lv_iload hx hb d_Mo_isCircuit_49 (lv_at hl 4 rfl) ?_
        refine lv_if_eq (tgt := 116) hx hb d_Mo_isCircuit_51 (by decide) (fun c_9 => ?_) (fun c_9 => ?_)
        · replace h := ck_if_t h c_9
          refine lv_iload hx hb d_Mo_isCircuit_116 (lv_at hl 4 rfl) ?_
          obtain ⟨g_10, h⟩ := ck_z_s h
          obtain rfl := Option.some.inj h
          subst hQ
          exact W.zret (ty := .boolean) (v := v4_5) hx hb hr g_10.1 (fun t ht hW => ⟨⟨v4_5, (), rfl, rfl, by rw [ht]; exact hP, va_K.moved hW.alike hK, hD⟩, hS.F ht⟩) hS.2.2 d_Mo_isCircuit_118
        · replace h := ck_if_f h c_9
          refine lv_iload_n hx hb d_Mo_isCircuit_54 rfl (lv_at hl 2 rfl) ?_
          refine lv_iload hx hb d_Mo_isCircuit_55 (lv_at hl 5 rfl) ?_
          refine lv_ishr hx hb d_Mo_isCircuit_57 ?_
          refine lv_iconst (v := 1) hx hb d_Mo_isCircuit_58 (by decide) ?_
          refine lv_iand hx hb d_Mo_isCircuit_59 ?_
          refine lv_iconst (v := 1) hx hb d_Mo_isCircuit_60 (by decide) ?_
          refine ck_jn_W h (fun k' => ∀ (v4_11 : Int32), k' v4_11 = some r → ∀ (H : Heap) (locs : List Loc), va_P (dC, dI) cl_all [(h_m, .inr (6, [.ref h_m_one, .ref h_m_two, .ref h_m_three, .ref h_m_four, .ref h_m_five, .ref h_m_six, .ref h_m_seven, .ref h_m_eight, .ref h_m_work, .ref h_m_small, .int m_rows, .int m_columns, .int m_prime, .ref h_m_pivots, .ref h_m_freeRows, .ref h_m_freeColumns, .ref h_m_minor, .ref h_m_smallMinor, .ref h_m_fields, .ref h_m_rowCounts, .ref h_m_elements, .ref h_m_numbers, .ref h_m_known, .ref h_m_ranks, .ref h_m_rankOf, .ref h_m_signOf, .ref h_m_order, .ref h_m_sizes, .ref h_m_coefficients, .ref h_m_choices, .ref h_m_sorted])), (h_m_rankOf, .inl (cB, m_rankOf_n, .inl m_rankOf)), (h_m_sizes, .inl (cI, m_sizes_n, .inl m_sizes)), (h_m_ranks, .inl (cI, m_ranks_n, .inl m_ranks)), (h_m_elements, .inl (cI, m_elements_n, .inl m_elements))] H → va_D A [(h_m, .inr (6, [.ref h_m_one, .ref h_m_two, .ref h_m_three, .ref h_m_four, .ref h_m_five, .ref h_m_six, .ref h_m_seven, .ref h_m_eight, .ref h_m_work, .ref h_m_small, .int m_rows, .int m_columns, .int m_prime, .ref h_m_pivots, .ref h_m_freeRows, .ref h_m_freeColumns, .ref h_m_minor, .ref h_m_smallMinor, .ref h_m_fields, .ref h_m_rowCounts, .ref h_m_elements, .ref h_m_numbers, .ref h_m_known, .ref h_m_ranks, .ref h_m_rankOf, .ref h_m_signOf, .ref h_m_order, .ref h_m_sizes, .ref h_m_coefficients, .ref h_m_choices, .ref h_m_sorted])), (h_m_rankOf, .inl (cB, m_rankOf_n, .inl m_rankOf)), (h_m_sizes, .inl (cI, m_sizes_n, .inl m_sizes)), (h_m_ranks, .inl (cI, m_ranks_n, .inl m_ranks)), (h_m_elements, .inl (cI, m_elements_n, .inl m_elements))] → va_S A s.heap H locs → ∀ ls : Array Slot, lv_has ls 7 [(0, .ref h_m), (1, .int k0), (2, .int set0), (3, .int dual0), (4, .int v4_11), (5, .int v5_4)] → W p l e ({ frames := 2, cells := 0, slots := 0, locals := 44 } : Room) s m AR below meth c H locs 0 0 QQ (F0 m 110 ls [])) ?_ ?_
          · intro v4_11 h H locs hP hD hS ls hl
            obtain ⟨x_12, ex_12⟩ : ∃ y : Int32, y = v5_4 + 1 := ⟨_, rfl⟩
            replace h := ck_nm_s h ex_12
            refine lv_iinc (v := x_12) (lv' := [(5, .int x_12), (0, .ref h_m), (1, .int k0), (2, .int set0), (3, .int dual0), (4, .int v4_11)]) hx hb d_Mo_isCircuit_110 hl (k := 5) rfl (by rw [ex_12]; rfl) (by decide) rfl (fun ls hl => ?_)
            refine lv_goto (tgt := 38) hx hb d_Mo_isCircuit_113 (by decide) ?_
            exact J_38 _ _ h _ _ hP hD hS _ (lv_sub hl [1, 2, 3, 4, 5, 0] rfl)
          · intro k_110 J_110 h
            refine lv_icmp_ne (tgt := 110) hx hb d_Mo_isCircuit_61 (by decide) (fun c_13 => ?_) (fun c_13 => ?_)
            · replace h := ck_if_f h c_13
              exact J_110 _ h _ _ hP hD hS _ (lv_sub hl [0, 1, 2, 3, 4, 5] rfl)
            · replace h := ck_if_t h c_13
              refine lv_iload_n hx hb d_Mo_isCircuit_64 rfl (lv_at hl 2 rfl) ?_
              refine lv_iconst (v := 1) hx hb d_Mo_isCircuit_65 (by decide) ?_
              refine lv_iload hx hb d_Mo_isCircuit_66 (lv_at hl 5 rfl) ?_
              refine lv_ishl hx hb d_Mo_isCircuit_68 ?_
              refine lv_ixor hx hb d_Mo_isCircuit_69 ?_
              refine lv_topi (fun x_14 ex_14 => ?_)
              replace h := ck_nm_s h ex_14
              refine lv_istore (lv' := [(6, .int x_14), (0, .ref h_m), (1, .int k0), (2, .int set0), (3, .int dual0), (4, .int v4_5), (5, .int v5_4)]) hx hb d_Mo_isCircuit_70 hl (by decide) rfl (fun ls hl => ?_)
              refine lv_iload_n hx hb d_Mo_isCircuit_72 rfl (lv_at hl 4 rfl) ?_
              refine ck_jn_W h (fun k' => ∀ (s0_15 : Int32), k' s0_15 = some r → ∀ (H : Heap) (locs : List Loc), va_P (dC, dI) cl_all [(h_m, .inr (6, [.ref h_m_one, .ref h_m_two, .ref h_m_three, .ref h_m_four, .ref h_m_five, .ref h_m_six, .ref h_m_seven, .ref h_m_eight, .ref h_m_work, .ref h_m_small, .int m_rows, .int m_columns, .int m_prime, .ref h_m_pivots, .ref h_m_freeRows, .ref h_m_freeColumns, .ref h_m_minor, .ref h_m_smallMinor, .ref h_m_fields, .ref h_m_rowCounts, .ref h_m_elements, .ref h_m_numbers, .ref h_m_known, .ref h_m_ranks, .ref h_m_rankOf, .ref h_m_signOf, .ref h_m_order, .ref h_m_sizes, .ref h_m_coefficients, .ref h_m_choices, .ref h_m_sorted])), (h_m_rankOf, .inl (cB, m_rankOf_n, .inl m_rankOf)), (h_m_sizes, .inl (cI, m_sizes_n, .inl m_sizes)), (h_m_ranks, .inl (cI, m_ranks_n, .inl m_ranks)), (h_m_elements, .inl (cI, m_elements_n, .inl m_elements))] H → va_D A [(h_m, .inr (6, [.ref h_m_one, .ref h_m_two, .ref h_m_three, .ref h_m_four, .ref h_m_five, .ref h_m_six, .ref h_m_seven, .ref h_m_eight, .ref h_m_work, .ref h_m_small, .int m_rows, .int m_columns, .int m_prime, .ref h_m_pivots, .ref h_m_freeRows, .ref h_m_freeColumns, .ref h_m_minor, .ref h_m_smallMinor, .ref h_m_fields, .ref h_m_rowCounts, .ref h_m_elements, .ref h_m_numbers, .ref h_m_known, .ref h_m_ranks, .ref h_m_rankOf, .ref h_m_signOf, .ref h_m_order, .ref h_m_sizes, .ref h_m_coefficients, .ref h_m_choices, .ref h_m_sorted])), (h_m_rankOf, .inl (cB, m_rankOf_n, .inl m_rankOf)), (h_m_sizes, .inl (cI, m_sizes_n, .inl m_sizes)), (h_m_ranks, .inl (cI, m_ranks_n, .inl m_ranks)), (h_m_elements, .inl (cI, m_elements_n, .inl m_elements))] → va_S A s.heap H locs → ∀ ls : Array Slot, lv_has ls 7 [(0, .ref h_m), (1, .int k0), (2, .int set0), (3, .int dual0), (5, .int v5_4), (6, .int x_14)] → W p l e ({ frames := 2, cells := 0, slots := 0, locals := 44 } : Room) s m AR below meth c H locs 0 0 QQ (F0 m 93 ls [.int s0_15])) ?_ ?_
              · intro s0_15 h H locs hP hD hS ls hl
                refine lv_aload_n hx hb d_Mo_isCircuit_93 rfl (lv_at hl 0 rfl) ?_
                refine va_get (D := (dC, dI)) (ci := 6) (v := .ref h_m_sizes) (C := "BasisWalkModel") (T := T_Mo) (N := 31) hx hb hts iw1 hown hK hP 0 rfl rfl 27 (by decide) fl0 (fun _ h9 => h9) rfl d_Mo_isCircuit_94 ?_
                refine lv_iload hx hb d_Mo_isCircuit_97 (lv_at hl 5 rfl) ?_
                obtain ⟨g_16, h⟩ := ck_in_s h
                refine va_iald hx hb hK hP 2 0 rfl rfl g_16 d_Mo_isCircuit_99 ?_
                refine ck_jn_W h (fun k' => ∀ (s0_17 : Int32), k' s0_17 = some r → ∀ (H : Heap) (locs : List Loc), va_P (dC, dI) cl_all [(h_m, .inr (6, [.ref h_m_one, .ref h_m_two, .ref h_m_three, .ref h_m_four, .ref h_m_five, .ref h_m_six, .ref h_m_seven, .ref h_m_eight, .ref h_m_work, .ref h_m_small, .int m_rows, .int m_columns, .int m_prime, .ref h_m_pivots, .ref h_m_freeRows, .ref h_m_freeColumns, .ref h_m_minor, .ref h_m_smallMinor, .ref h_m_fields, .ref h_m_rowCounts, .ref h_m_elements, .ref h_m_numbers, .ref h_m_known, .ref h_m_ranks, .ref h_m_rankOf, .ref h_m_signOf, .ref h_m_order, .ref h_m_sizes, .ref h_m_coefficients, .ref h_m_choices, .ref h_m_sorted])), (h_m_rankOf, .inl (cB, m_rankOf_n, .inl m_rankOf)), (h_m_sizes, .inl (cI, m_sizes_n, .inl m_sizes)), (h_m_ranks, .inl (cI, m_ranks_n, .inl m_ranks)), (h_m_elements, .inl (cI, m_elements_n, .inl m_elements))] H → va_D A [(h_m, .inr (6, [.ref h_m_one, .ref h_m_two, .ref h_m_three, .ref h_m_four, .ref h_m_five, .ref h_m_six, .ref h_m_seven, .ref h_m_eight, .ref h_m_work, .ref h_m_small, .int m_rows, .int m_columns, .int m_prime, .ref h_m_pivots, .ref h_m_freeRows, .ref h_m_freeColumns, .ref h_m_minor, .ref h_m_smallMinor, .ref h_m_fields, .ref h_m_rowCounts, .ref h_m_elements, .ref h_m_numbers, .ref h_m_known, .ref h_m_ranks, .ref h_m_rankOf, .ref h_m_signOf, .ref h_m_order, .ref h_m_sizes, .ref h_m_coefficients, .ref h_m_choices, .ref h_m_sorted])), (h_m_rankOf, .inl (cB, m_rankOf_n, .inl m_rankOf)), (h_m_sizes, .inl (cI, m_sizes_n, .inl m_sizes)), (h_m_ranks, .inl (cI, m_ranks_n, .inl m_ranks)), (h_m_elements, .inl (cI, m_elements_n, .inl m_elements))] → va_S A s.heap H locs → ∀ ls : Array Slot, lv_has ls 7 [(0, .ref h_m), (1, .int k0), (2, .int set0), (3, .int dual0), (5, .int v5_4)] → W p l e ({ frames := 2, cells := 0, slots := 0, locals := 44 } : Room) s m AR below meth c H locs 0 0 QQ (F0 m 108 ls [.int s0_17])) ?_ ?_
                · intro s0_17 h H locs hP hD hS ls hl
                  refine lv_istore (lv' := [(4, .int s0_17), (0, .ref h_m), (1, .int k0), (2, .int set0), (3, .int dual0), (5, .int v5_4)]) hx hb d_Mo_isCircuit_108 hl (by decide) rfl (fun ls hl => ?_)
                  exact J_110 _ h _ _ hP hD hS _ (lv_sub hl [1, 2, 3, 4, 0, 5] rfl)
                · intro k_108 J_108 h
                  refine lv_icmp_ne (tgt := 107) hx hb d_Mo_isCircuit_100 (by decide) (fun c_18 => ?_) (fun c_18 => ?_)
                  · replace h := ck_if_f h c_18
                    refine lv_iconst (v := 0) hx hb d_Mo_isCircuit_107 (by decide) ?_
                    exact J_108 _ h _ _ hP hD hS _ (lv_sub hl [0, 1, 2, 3, 4] rfl)
                  · replace h := ck_if_t h c_18
                    refine lv_iconst (v := 1) hx hb d_Mo_isCircuit_103 (by decide) ?_
                    refine lv_goto (tgt := 108) hx hb d_Mo_isCircuit_104 (by decide) ?_
                    exact J_108 _ h _ _ hP hD hS _ (lv_sub hl [0, 1, 2, 3, 4] rfl)
              · intro k_93 J_93 h
                refine lv_if_eq (tgt := 86) hx hb d_Mo_isCircuit_73 (by decide) (fun c_19 => ?_) (fun c_19 => ?_)
                · replace h := ck_if_t h c_19
                  refine lv_aload_n hx hb d_Mo_isCircuit_86 rfl (lv_at hl 1 rfl) ?_
                  refine lv_iload_n hx hb d_Mo_isCircuit_87 rfl (lv_at hl 2 rfl) ?_
                  refine lv_iload hx hb d_Mo_isCircuit_88 (lv_at hl 0 rfl) ?_
                  obtain ⟨r_20, hc_21, h⟩ := ck_b1_s h
                  have hPc := hP.sub (ws' := [(h_m, .inr (6, [.ref h_m_one, .ref h_m_two, .ref h_m_three, .ref h_m_four, .ref h_m_five, .ref h_m_six, .ref h_m_seven, .ref h_m_eight, .ref h_m_work, .ref h_m_small, .int m_rows, .int m_columns, .int m_prime, .ref h_m_pivots, .ref h_m_freeRows, .ref h_m_freeColumns, .ref h_m_minor, .ref h_m_smallMinor, .ref h_m_fields, .ref h_m_rowCounts, .ref h_m_elements, .ref h_m_numbers, .ref h_m_known, .ref h_m_ranks, .ref h_m_rankOf, .ref h_m_signOf, .ref h_m_order, .ref h_m_sizes, .ref h_m_coefficients, .ref h_m_choices, .ref h_m_sorted])), (h_m_rankOf, .inl (cB, m_rankOf_n, .inl m_rankOf))]) [0, 1] rfl
                  have hDc := hD.sub (ws' := [(h_m, .inr (6, [.ref h_m_one, .ref h_m_two, .ref h_m_three, .ref h_m_four, .ref h_m_five, .ref h_m_six, .ref h_m_seven, .ref h_m_eight, .ref h_m_work, .ref h_m_small, .int m_rows, .int m_columns, .int m_prime, .ref h_m_pivots, .ref h_m_freeRows, .ref h_m_freeColumns, .ref h_m_minor, .ref h_m_smallMinor, .ref h_m_fields, .ref h_m_rowCounts, .ref h_m_elements, .ref h_m_numbers, .ref h_m_known, .ref h_m_ranks, .ref h_m_rankOf, .ref h_m_signOf, .ref h_m_order, .ref h_m_sizes, .ref h_m_coefficients, .ref h_m_choices, .ref h_m_sorted])), (h_m_rankOf, .inl (cB, m_rankOf_n, .inl m_rankOf))]) [0, 1] (by decide) rfl
                  have hFc := va_free (wc := [(h_m, .inr (6, [.ref h_m_one, .ref h_m_two, .ref h_m_three, .ref h_m_four, .ref h_m_five, .ref h_m_six, .ref h_m_seven, .ref h_m_eight, .ref h_m_work, .ref h_m_small, .int m_rows, .int m_columns, .int m_prime, .ref h_m_pivots, .ref h_m_freeRows, .ref h_m_freeColumns, .ref h_m_minor, .ref h_m_smallMinor, .ref h_m_fields, .ref h_m_rowCounts, .ref h_m_elements, .ref h_m_numbers, .ref h_m_known, .ref h_m_ranks, .ref h_m_rankOf, .ref h_m_signOf, .ref h_m_order, .ref h_m_sizes, .ref h_m_coefficients, .ref h_m_choices, .ref h_m_sorted])), (h_m_rankOf, .inl (cB, m_rankOf_n, .inl m_rankOf))]) hD hS hA [0, 1] rfl
                  refine va_calli (va_runV (As := [.int k0, .int x_14]) (rest := []) ⟨hx, hb, hml, hown, hts⟩ (c_R_r l dC dI cI cJ cB cZ cT cN H.size h_m h_m_one h_m_two h_m_three h_m_four h_m_five h_m_six h_m_seven h_m_eight h_m_work h_m_small h_m_pivots h_m_freeRows h_m_freeColumns h_m_minor h_m_smallMinor h_m_fields h_m_rowCounts h_m_elements h_m_numbers h_m_known h_m_ranks h_m_rankOf h_m_signOf h_m_order h_m_sizes h_m_coefficients h_m_choices h_m_sorted m_rows m_columns m_prime m_rankOf_n m_rankOf k0 x_14 _ hc_21) (cwV 2 hts (tb_V tw_602 tw_604 tp_35 tw_6 tw_605) rfl rfl rfl (by decide +kernel) ⟨Nat.le_of_ble_eq_true rfl, Nat.le_of_ble_eq_true rfl⟩) ⟨fun a U g mk q => by obtain ⟨q0, q1, qP, qK, qN, qD⟩ := q; exact ⟨q0, q1, qP, va_K.moved (u := U) (U := U.calling g mk a) (Vm.Alike.refl U.vm) qK, qN.same rfl, qD⟩, va_recv hK hPc (ci := 6) (q0 := 0) rfl rfl, fun U hU hW => ⟨rfl, by rw [hU], by rw [hU]; exact hPc, va_K.moved hW.alike hK, hN.warm hW, hDc.weaken (fun _ _ _ _ => trivial)⟩⟩ rfl rfl hl.1 rfl (lv_room (Nat.le_of_ble_eq_true rfl)) d_Mo_isCircuit_90 ⟨Nat.zero_le _, Nat.zero_le _⟩) hS (fun q _ h => hFc q h) hFc (fun rr u t H1 locs ht hvm hw hB hz1 hk1 hS => ?_)
                  replace hw := hw.symm
                  subst hw
                  obtain ⟨hP1, -, hD1⟩ := hB
                  rw [ht] at hP1
                  obtain ⟨hP, hD⟩ := va_join (wr := [(h_m_sizes, .inl (cI, m_sizes_n, .inl m_sizes)), (h_m_ranks, .inl (cI, m_ranks_n, .inl m_ranks)), (h_m_elements, .inl (cI, m_elements_n, .inl m_elements))]) (w1 := [(h_m, .inr (6, [.ref h_m_one, .ref h_m_two, .ref h_m_three, .ref h_m_four, .ref h_m_five, .ref h_m_six, .ref h_m_seven, .ref h_m_eight, .ref h_m_work, .ref h_m_small, .int m_rows, .int m_columns, .int m_prime, .ref h_m_pivots, .ref h_m_freeRows, .ref h_m_freeColumns, .ref h_m_minor, .ref h_m_smallMinor, .ref h_m_fields, .ref h_m_rowCounts, .ref h_m_elements, .ref h_m_numbers, .ref h_m_known, .ref h_m_ranks, .ref h_m_rankOf, .ref h_m_signOf, .ref h_m_order, .ref h_m_sizes, .ref h_m_coefficients, .ref h_m_choices, .ref h_m_sorted])), (h_m_rankOf, .inl (cB, m_rankOf_n, .inl m_rankOf))]) hP hD [0, 1] [2, 3, 4] rfl rfl (by decide) (by decide) hk1 hFc hP1 hD1
                  generalize H1 = H at hP hS ⊢
                  have hP : va_P (dC, dI) cl_all [(h_m, .inr (6, [.ref h_m_one, .ref h_m_two, .ref h_m_three, .ref h_m_four, .ref h_m_five, .ref h_m_six, .ref h_m_seven, .ref h_m_eight, .ref h_m_work, .ref h_m_small, .int m_rows, .int m_columns, .int m_prime, .ref h_m_pivots, .ref h_m_freeRows, .ref h_m_freeColumns, .ref h_m_minor, .ref h_m_smallMinor, .ref h_m_fields, .ref h_m_rowCounts, .ref h_m_elements, .ref h_m_numbers, .ref h_m_known, .ref h_m_ranks, .ref h_m_rankOf, .ref h_m_signOf, .ref h_m_order, .ref h_m_sizes, .ref h_m_coefficients, .ref h_m_choices, .ref h_m_sorted])), (h_m_rankOf, .inl (cB, m_rankOf_n, .inl m_rankOf)), (h_m_sizes, .inl (cI, m_sizes_n, .inl m_sizes)), (h_m_ranks, .inl (cI, m_ranks_n, .inl m_ranks)), (h_m_elements, .inl (cI, m_elements_n, .inl m_elements))] H := hP.sub [3, 4, 0, 1, 2] rfl
                  have hD : va_D A [(h_m, .inr (6, [.ref h_m_one, .ref h_m_two, .ref h_m_three, .ref h_m_four, .ref h_m_five, .ref h_m_six, .ref h_m_seven, .ref h_m_eight, .ref h_m_work, .ref h_m_small, .int m_rows, .int m_columns, .int m_prime, .ref h_m_pivots, .ref h_m_freeRows, .ref h_m_freeColumns, .ref h_m_minor, .ref h_m_smallMinor, .ref h_m_fields, .ref h_m_rowCounts, .ref h_m_elements, .ref h_m_numbers, .ref h_m_known, .ref h_m_ranks, .ref h_m_rankOf, .ref h_m_signOf, .ref h_m_order, .ref h_m_sizes, .ref h_m_coefficients, .ref h_m_choices, .ref h_m_sorted])), (h_m_rankOf, .inl (cB, m_rankOf_n, .inl m_rankOf)), (h_m_sizes, .inl (cI, m_sizes_n, .inl m_sizes)), (h_m_ranks, .inl (cI, m_ranks_n, .inl m_ranks)), (h_m_elements, .inl (cI, m_elements_n, .inl m_elements))] := hD.sub [3, 4, 0, 1, 2] (by decide) rfl
                  exact J_93 _ h _ _ hP hD hS _ (lv_sub hl [1, 2, 3, 4, 6, 0] rfl)
                · replace h := ck_if_f h c_19
                  refine lv_aload_n hx hb d_Mo_isCircuit_76 rfl (lv_at hl 1 rfl) ?_
                  refine lv_iload_n hx hb d_Mo_isCircuit_77 rfl (lv_at hl 2 rfl) ?_
                  refine lv_iload hx hb d_Mo_isCircuit_78 (lv_at hl 0 rfl) ?_
                  obtain ⟨r_22, hc_23, h⟩ := ck_b1_s h
                  have hPc := hP.sub (ws' := [(h_m, .inr (6, [.ref h_m_one, .ref h_m_two, .ref h_m_three, .ref h_m_four, .ref h_m_five, .ref h_m_six, .ref h_m_seven, .ref h_m_eight, .ref h_m_work, .ref h_m_small, .int m_rows, .int m_columns, .int m_prime, .ref h_m_pivots, .ref h_m_freeRows, .ref h_m_freeColumns, .ref h_m_minor, .ref h_m_smallMinor, .ref h_m_fields, .ref h_m_rowCounts, .ref h_m_elements, .ref h_m_numbers, .ref h_m_known, .ref h_m_ranks, .ref h_m_rankOf, .ref h_m_signOf, .ref h_m_order, .ref h_m_sizes, .ref h_m_coefficients, .ref h_m_choices, .ref h_m_sorted])), (h_m_rankOf, .inl (cB, m_rankOf_n, .inl m_rankOf)), (h_m_sizes, .inl (cI, m_sizes_n, .inl m_sizes)), (h_m_ranks, .inl (cI, m_ranks_n, .inl m_ranks)), (h_m_elements, .inl (cI, m_elements_n, .inl m_elements))]) [0, 1, 2, 3, 4] rfl
                  have hDc := hD.sub (ws' := [(h_m, .inr (6, [.ref h_m_one, .ref h_m_two, .ref h_m_three, .ref h_m_four, .ref h_m_five, .ref h_m_six, .ref h_m_seven, .ref h_m_eight, .ref h_m_work, .ref h_m_small, .int m_rows, .int m_columns, .int m_prime, .ref h_m_pivots, .ref h_m_freeRows, .ref h_m_freeColumns, .ref h_m_minor, .ref h_m_smallMinor, .ref h_m_fields, .ref h_m_rowCounts, .ref h_m_elements, .ref h_m_numbers, .ref h_m_known, .ref h_m_ranks, .ref h_m_rankOf, .ref h_m_signOf, .ref h_m_order, .ref h_m_sizes, .ref h_m_coefficients, .ref h_m_choices, .ref h_m_sorted])), (h_m_rankOf, .inl (cB, m_rankOf_n, .inl m_rankOf)), (h_m_sizes, .inl (cI, m_sizes_n, .inl m_sizes)), (h_m_ranks, .inl (cI, m_ranks_n, .inl m_ranks)), (h_m_elements, .inl (cI, m_elements_n, .inl m_elements))]) [0, 1, 2, 3, 4] (by decide) rfl
                  have hFc := va_free (wc := [(h_m, .inr (6, [.ref h_m_one, .ref h_m_two, .ref h_m_three, .ref h_m_four, .ref h_m_five, .ref h_m_six, .ref h_m_seven, .ref h_m_eight, .ref h_m_work, .ref h_m_small, .int m_rows, .int m_columns, .int m_prime, .ref h_m_pivots, .ref h_m_freeRows, .ref h_m_freeColumns, .ref h_m_minor, .ref h_m_smallMinor, .ref h_m_fields, .ref h_m_rowCounts, .ref h_m_elements, .ref h_m_numbers, .ref h_m_known, .ref h_m_ranks, .ref h_m_rankOf, .ref h_m_signOf, .ref h_m_order, .ref h_m_sizes, .ref h_m_coefficients, .ref h_m_choices, .ref h_m_sorted])), (h_m_rankOf, .inl (cB, m_rankOf_n, .inl m_rankOf)), (h_m_sizes, .inl (cI, m_sizes_n, .inl m_sizes)), (h_m_ranks, .inl (cI, m_ranks_n, .inl m_ranks)), (h_m_elements, .inl (cI, m_elements_n, .inl m_elements))]) hD hS hA [0, 1, 2, 3, 4] rfl
                  refine va_calli (va_runV (As := [.int k0, .int x_14]) (rest := []) ⟨hx, hb, hml, hown, hts⟩ (c_R_dualRank l dC dI cI cJ cB cZ cT cN H.size h_m h_m_one h_m_two h_m_three h_m_four h_m_five h_m_six h_m_seven h_m_eight h_m_work h_m_small h_m_pivots h_m_freeRows h_m_freeColumns h_m_minor h_m_smallMinor h_m_fields h_m_rowCounts h_m_elements h_m_numbers h_m_known h_m_ranks h_m_rankOf h_m_signOf h_m_order h_m_sizes h_m_coefficients h_m_choices h_m_sorted m_rows m_columns m_prime m_rankOf_n m_rankOf m_sizes_n m_sizes m_ranks_n m_ranks m_elements_n m_elements k0 x_14 _ hc_23) (cwV 2 hts (tb_V tw_630 tw_632 tp_41 tw_6 tw_633) rfl rfl rfl (by decide +kernel) ⟨Nat.le_of_ble_eq_true rfl, Nat.le_of_ble_eq_true rfl⟩) ⟨fun a U g mk q => by obtain ⟨q0, q1, qP, qK, qN, qD⟩ := q; exact ⟨q0, q1, qP, va_K.moved (u := U) (U := U.calling g mk a) (Vm.Alike.refl U.vm) qK, qN.same rfl, qD⟩, va_recv hK hPc (ci := 6) (q0 := 0) rfl rfl, fun U hU hW => ⟨rfl, by rw [hU], by rw [hU]; exact hPc, va_K.moved hW.alike hK, hN.warm hW, hDc.weaken (fun _ _ _ _ => trivial)⟩⟩ rfl rfl hl.1 rfl (lv_room (Nat.le_of_ble_eq_true rfl)) d_Mo_isCircuit_80 ⟨Nat.zero_le _, Nat.zero_le _⟩) hS (fun q _ h => hFc q h) hFc (fun rr u t H1 locs ht hvm hw hB hz1 hk1 hS => ?_)
                  replace hw := hw.symm
                  subst hw
                  obtain ⟨hP1, -, hD1⟩ := hB
                  rw [ht] at hP1
                  obtain ⟨hP, hD⟩ := va_join (wr := []) (w1 := [(h_m, .inr (6, [.ref h_m_one, .ref h_m_two, .ref h_m_three, .ref h_m_four, .ref h_m_five, .ref h_m_six, .ref h_m_seven, .ref h_m_eight, .ref h_m_work, .ref h_m_small, .int m_rows, .int m_columns, .int m_prime, .ref h_m_pivots, .ref h_m_freeRows, .ref h_m_freeColumns, .ref h_m_minor, .ref h_m_smallMinor, .ref h_m_fields, .ref h_m_rowCounts, .ref h_m_elements, .ref h_m_numbers, .ref h_m_known, .ref h_m_ranks, .ref h_m_rankOf, .ref h_m_signOf, .ref h_m_order, .ref h_m_sizes, .ref h_m_coefficients, .ref h_m_choices, .ref h_m_sorted])), (h_m_rankOf, .inl (cB, m_rankOf_n, .inl m_rankOf)), (h_m_sizes, .inl (cI, m_sizes_n, .inl m_sizes)), (h_m_ranks, .inl (cI, m_ranks_n, .inl m_ranks)), (h_m_elements, .inl (cI, m_elements_n, .inl m_elements))]) hP hD [0, 1, 2, 3, 4] [] rfl rfl (by decide) (by decide) hk1 hFc hP1 hD1
                  generalize H1 = H at hP hS ⊢
                  have hP : va_P (dC, dI) cl_all [(h_m, .inr (6, [.ref h_m_one, .ref h_m_two, .ref h_m_three, .ref h_m_four, .ref h_m_five, .ref h_m_six, .ref h_m_seven, .ref h_m_eight, .ref h_m_work, .ref h_m_small, .int m_rows, .int m_columns, .int m_prime, .ref h_m_pivots, .ref h_m_freeRows, .ref h_m_freeColumns, .ref h_m_minor, .ref h_m_smallMinor, .ref h_m_fields, .ref h_m_rowCounts, .ref h_m_elements, .ref h_m_numbers, .ref h_m_known, .ref h_m_ranks, .ref h_m_rankOf, .ref h_m_signOf, .ref h_m_order, .ref h_m_sizes, .ref h_m_coefficients, .ref h_m_choices, .ref h_m_sorted])), (h_m_rankOf, .inl (cB, m_rankOf_n, .inl m_rankOf)), (h_m_sizes, .inl (cI, m_sizes_n, .inl m_sizes)), (h_m_ranks, .inl (cI, m_ranks_n, .inl m_ranks)), (h_m_elements, .inl (cI, m_elements_n, .inl m_elements))] H := hP.sub [0, 1, 2, 3, 4] rfl
                  have hD : va_D A [(h_m, .inr (6, [.ref h_m_one, .ref h_m_two, .ref h_m_three, .ref h_m_four, .ref h_m_five, .ref h_m_six, .ref h_m_seven, .ref h_m_eight, .ref h_m_work, .ref h_m_small, .int m_rows, .int m_columns, .int m_prime, .ref h_m_pivots, .ref h_m_freeRows, .ref h_m_freeColumns, .ref h_m_minor, .ref h_m_smallMinor, .ref h_m_fields, .ref h_m_rowCounts, .ref h_m_elements, .ref h_m_numbers, .ref h_m_known, .ref h_m_ranks, .ref h_m_rankOf, .ref h_m_signOf, .ref h_m_order, .ref h_m_sizes, .ref h_m_coefficients, .ref h_m_choices, .ref h_m_sorted])), (h_m_rankOf, .inl (cB, m_rankOf_n, .inl m_rankOf)), (h_m_sizes, .inl (cI, m_sizes_n, .inl m_sizes)), (h_m_ranks, .inl (cI, m_ranks_n, .inl m_ranks)), (h_m_elements, .inl (cI, m_elements_n, .inl m_elements))] := hD.sub [0, 1, 2, 3, 4] (by decide) rfl
                  refine lv_goto (tgt := 93) hx hb d_Mo_isCircuit_83 (by decide) ?_
                  exact J_93 _ h _ _ hP hD hS _ (lv_sub hl [1, 2, 3, 4, 6, 0] rfl)
    · intro k_33 J_33 h
      refine lv_icmp_ge (tgt := 32) hx hb d_Mo_isCircuit_25 (by decide) (fun c_24 => ?_) (fun c_24 => ?_)
      · replace h := ck_if_t h c_24
        refine lv_iconst (v := 0) hx hb d_Mo_isCircuit_32 (by decide) ?_
        exact J_33 _ h _ _ hP hD hS _ (lv_sub hl [0, 1, 2, 3] rfl)
      · replace h := ck_if_f h c_24
        refine lv_iconst (v := 1) hx hb d_Mo_isCircuit_28 (by decide) ?_
        refine lv_goto (tgt := 33) hx hb d_Mo_isCircuit_29 (by decide) ?_
        exact J_33 _ h _ _ hP hD hS _ (lv_sub hl [0, 1, 2, 3] rfl)
  · intro k_19 J_19 h
    refine lv_if_eq (tgt := 13) hx hb d_Mo_isCircuit_1 (by decide) (fun c_25 => ?_) (fun c_25 => ?_)
    · replace h := ck_if_t h c_25
      refine lv_aload_n hx hb d_Mo_isCircuit_13 rfl (lv_at hl 0 rfl) ?_
      refine lv_iload_n hx hb d_Mo_isCircuit_14 rfl (lv_at hl 1 rfl) ?_
      refine lv_iload_n hx hb d_Mo_isCircuit_15 rfl (lv_at hl 2 rfl) ?_
      obtain ⟨r_26, hc_27, h⟩ := ck_b1_s h
      have hPc := hP.sub (ws' := [(h_m, .inr (6, [.ref h_m_one, .ref h_m_two, .ref h_m_three, .ref h_m_four, .ref h_m_five, .ref h_m_six, .ref h_m_seven, .ref h_m_eight, .ref h_m_work, .ref h_m_small, .int m_rows, .int m_columns, .int m_prime, .ref h_m_pivots, .ref h_m_freeRows, .ref h_m_freeColumns, .ref h_m_minor, .ref h_m_smallMinor, .ref h_m_fields, .ref h_m_rowCounts, .ref h_m_elements, .ref h_m_numbers, .ref h_m_known, .ref h_m_ranks, .ref h_m_rankOf, .ref h_m_signOf, .ref h_m_order, .ref h_m_sizes, .ref h_m_coefficients, .ref h_m_choices, .ref h_m_sorted])), (h_m_rankOf, .inl (cB, m_rankOf_n, .inl m_rankOf))]) [0, 1] rfl
      have hDc := hD.sub (ws' := [(h_m, .inr (6, [.ref h_m_one, .ref h_m_two, .ref h_m_three, .ref h_m_four, .ref h_m_five, .ref h_m_six, .ref h_m_seven, .ref h_m_eight, .ref h_m_work, .ref h_m_small, .int m_rows, .int m_columns, .int m_prime, .ref h_m_pivots, .ref h_m_freeRows, .ref h_m_freeColumns, .ref h_m_minor, .ref h_m_smallMinor, .ref h_m_fields, .ref h_m_rowCounts, .ref h_m_elements, .ref h_m_numbers, .ref h_m_known, .ref h_m_ranks, .ref h_m_rankOf, .ref h_m_signOf, .ref h_m_order, .ref h_m_sizes, .ref h_m_coefficients, .ref h_m_choices, .ref h_m_sorted])), (h_m_rankOf, .inl (cB, m_rankOf_n, .inl m_rankOf))]) [0, 1] (by decide) rfl
      have hFc := va_free (wc := [(h_m, .inr (6, [.ref h_m_one, .ref h_m_two, .ref h_m_three, .ref h_m_four, .ref h_m_five, .ref h_m_six, .ref h_m_seven, .ref h_m_eight, .ref h_m_work, .ref h_m_small, .int m_rows, .int m_columns, .int m_prime, .ref h_m_pivots, .ref h_m_freeRows, .ref h_m_freeColumns, .ref h_m_minor, .ref h_m_smallMinor, .ref h_m_fields, .ref h_m_rowCounts, .ref h_m_elements, .ref h_m_numbers, .ref h_m_known, .ref h_m_ranks, .ref h_m_rankOf, .ref h_m_signOf, .ref h_m_order, .ref h_m_sizes, .ref h_m_coefficients, .ref h_m_choices, .ref h_m_sorted])), (h_m_rankOf, .inl (cB, m_rankOf_n, .inl m_rankOf))]) hD hS hA [0, 1] rfl
      refine va_calli (va_runV (As := [.int k0, .int set0]) (rest := []) ⟨hx, hb, hml, hown, hts⟩ (c_R_r l dC dI cI cJ cB cZ cT cN H.size h_m h_m_one h_m_two h_m_three h_m_four h_m_five h_m_six h_m_seven h_m_eight h_m_work h_m_small h_m_pivots h_m_freeRows h_m_freeColumns h_m_minor h_m_smallMinor h_m_fields h_m_rowCounts h_m_elements h_m_numbers h_m_known h_m_ranks h_m_rankOf h_m_signOf h_m_order h_m_sizes h_m_coefficients h_m_choices h_m_sorted m_rows m_columns m_prime m_rankOf_n m_rankOf k0 set0 _ hc_27) (cwV 2 hts (tb_V tw_602 tw_604 tp_35 tw_6 tw_605) rfl rfl rfl (by decide +kernel) ⟨Nat.le_of_ble_eq_true rfl, Nat.le_of_ble_eq_true rfl⟩) ⟨fun a U g mk q => by obtain ⟨q0, q1, qP, qK, qN, qD⟩ := q; exact ⟨q0, q1, qP, va_K.moved (u := U) (U := U.calling g mk a) (Vm.Alike.refl U.vm) qK, qN.same rfl, qD⟩, va_recv hK hPc (ci := 6) (q0 := 0) rfl rfl, fun U hU hW => ⟨rfl, by rw [hU], by rw [hU]; exact hPc, va_K.moved hW.alike hK, hN.warm hW, hDc.weaken (fun _ _ _ _ => trivial)⟩⟩ rfl rfl hl.1 rfl (lv_room (Nat.le_of_ble_eq_true rfl)) d_Mo_isCircuit_16 ⟨Nat.zero_le _, Nat.zero_le _⟩) hS (fun q _ h => hFc q h) hFc (fun rr u t H1 locs ht hvm hw hB hz1 hk1 hS => ?_)
      replace hw := hw.symm
      subst hw
      obtain ⟨hP1, -, hD1⟩ := hB
      rw [ht] at hP1
      obtain ⟨hP, hD⟩ := va_join (wr := [(h_m_sizes, .inl (cI, m_sizes_n, .inl m_sizes)), (h_m_ranks, .inl (cI, m_ranks_n, .inl m_ranks)), (h_m_elements, .inl (cI, m_elements_n, .inl m_elements))]) (w1 := [(h_m, .inr (6, [.ref h_m_one, .ref h_m_two, .ref h_m_three, .ref h_m_four, .ref h_m_five, .ref h_m_six, .ref h_m_seven, .ref h_m_eight, .ref h_m_work, .ref h_m_small, .int m_rows, .int m_columns, .int m_prime, .ref h_m_pivots, .ref h_m_freeRows, .ref h_m_freeColumns, .ref h_m_minor, .ref h_m_smallMinor, .ref h_m_fields, .ref h_m_rowCounts, .ref h_m_elements, .ref h_m_numbers, .ref h_m_known, .ref h_m_ranks, .ref h_m_rankOf, .ref h_m_signOf, .ref h_m_order, .ref h_m_sizes, .ref h_m_coefficients, .ref h_m_choices, .ref h_m_sorted])), (h_m_rankOf, .inl (cB, m_rankOf_n, .inl m_rankOf))]) hP hD [0, 1] [2, 3, 4] rfl rfl (by decide) (by decide) hk1 hFc hP1 hD1
      generalize H1 = H at hP hS ⊢
      have hP : va_P (dC, dI) cl_all [(h_m, .inr (6, [.ref h_m_one, .ref h_m_two, .ref h_m_three, .ref h_m_four, .ref h_m_five, .ref h_m_six, .ref h_m_seven, .ref h_m_eight, .ref h_m_work, .ref h_m_small, .int m_rows, .int m_columns, .int m_prime, .ref h_m_pivots, .ref h_m_freeRows, .ref h_m_freeColumns, .ref h_m_minor, .ref h_m_smallMinor, .ref h_m_fields, .ref h_m_rowCounts, .ref h_m_elements, .ref h_m_numbers, .ref h_m_known, .ref h_m_ranks, .ref h_m_rankOf, .ref h_m_signOf, .ref h_m_order, .ref h_m_sizes, .ref h_m_coefficients, .ref h_m_choices, .ref h_m_sorted])), (h_m_rankOf, .inl (cB, m_rankOf_n, .inl m_rankOf)), (h_m_sizes, .inl (cI, m_sizes_n, .inl m_sizes)), (h_m_ranks, .inl (cI, m_ranks_n, .inl m_ranks)), (h_m_elements, .inl (cI, m_elements_n, .inl m_elements))] H := hP.sub [3, 4, 0, 1, 2] rfl
      have hD : va_D A [(h_m, .inr (6, [.ref h_m_one, .ref h_m_two, .ref h_m_three, .ref h_m_four, .ref h_m_five, .ref h_m_six, .ref h_m_seven, .ref h_m_eight, .ref h_m_work, .ref h_m_small, .int m_rows, .int m_columns, .int m_prime, .ref h_m_pivots, .ref h_m_freeRows, .ref h_m_freeColumns, .ref h_m_minor, .ref h_m_smallMinor, .ref h_m_fields, .ref h_m_rowCounts, .ref h_m_elements, .ref h_m_numbers, .ref h_m_known, .ref h_m_ranks, .ref h_m_rankOf, .ref h_m_signOf, .ref h_m_order, .ref h_m_sizes, .ref h_m_coefficients, .ref h_m_choices, .ref h_m_sorted])), (h_m_rankOf, .inl (cB, m_rankOf_n, .inl m_rankOf)), (h_m_sizes, .inl (cI, m_sizes_n, .inl m_sizes)), (h_m_ranks, .inl (cI, m_ranks_n, .inl m_ranks)), (h_m_elements, .inl (cI, m_elements_n, .inl m_elements))] := hD.sub [3, 4, 0, 1, 2] (by decide) rfl
      exact J_19 _ h _ _ hP hD hS _ (lv_sub hl [0, 1, 2, 3] rfl)
    · replace h := ck_if_f h c_25
      refine lv_aload_n hx hb d_Mo_isCircuit_4 rfl (lv_at hl 0 rfl) ?_
      refine lv_iload_n hx hb d_Mo_isCircuit_5 rfl (lv_at hl 1 rfl) ?_
      refine lv_iload_n hx hb d_Mo_isCircuit_6 rfl (lv_at hl 2 rfl) ?_
      obtain ⟨r_28, hc_29, h⟩ := ck_b1_s h
      have hPc := hP.sub (ws' := [(h_m, .inr (6, [.ref h_m_one, .ref h_m_two, .ref h_m_three, .ref h_m_four, .ref h_m_five, .ref h_m_six, .ref h_m_seven, .ref h_m_eight, .ref h_m_work, .ref h_m_small, .int m_rows, .int m_columns, .int m_prime, .ref h_m_pivots, .ref h_m_freeRows, .ref h_m_freeColumns, .ref h_m_minor, .ref h_m_smallMinor, .ref h_m_fields, .ref h_m_rowCounts, .ref h_m_elements, .ref h_m_numbers, .ref h_m_known, .ref h_m_ranks, .ref h_m_rankOf, .ref h_m_signOf, .ref h_m_order, .ref h_m_sizes, .ref h_m_coefficients, .ref h_m_choices, .ref h_m_sorted])), (h_m_rankOf, .inl (cB, m_rankOf_n, .inl m_rankOf)), (h_m_sizes, .inl (cI, m_sizes_n, .inl m_sizes)), (h_m_ranks, .inl (cI, m_ranks_n, .inl m_ranks)), (h_m_elements, .inl (cI, m_elements_n, .inl m_elements))]) [0, 1, 2, 3, 4] rfl
      have hDc := hD.sub (ws' := [(h_m, .inr (6, [.ref h_m_one, .ref h_m_two, .ref h_m_three, .ref h_m_four, .ref h_m_five, .ref h_m_six, .ref h_m_seven, .ref h_m_eight, .ref h_m_work, .ref h_m_small, .int m_rows, .int m_columns, .int m_prime, .ref h_m_pivots, .ref h_m_freeRows, .ref h_m_freeColumns, .ref h_m_minor, .ref h_m_smallMinor, .ref h_m_fields, .ref h_m_rowCounts, .ref h_m_elements, .ref h_m_numbers, .ref h_m_known, .ref h_m_ranks, .ref h_m_rankOf, .ref h_m_signOf, .ref h_m_order, .ref h_m_sizes, .ref h_m_coefficients, .ref h_m_choices, .ref h_m_sorted])), (h_m_rankOf, .inl (cB, m_rankOf_n, .inl m_rankOf)), (h_m_sizes, .inl (cI, m_sizes_n, .inl m_sizes)), (h_m_ranks, .inl (cI, m_ranks_n, .inl m_ranks)), (h_m_elements, .inl (cI, m_elements_n, .inl m_elements))]) [0, 1, 2, 3, 4] (by decide) rfl
      have hFc := va_free (wc := [(h_m, .inr (6, [.ref h_m_one, .ref h_m_two, .ref h_m_three, .ref h_m_four, .ref h_m_five, .ref h_m_six, .ref h_m_seven, .ref h_m_eight, .ref h_m_work, .ref h_m_small, .int m_rows, .int m_columns, .int m_prime, .ref h_m_pivots, .ref h_m_freeRows, .ref h_m_freeColumns, .ref h_m_minor, .ref h_m_smallMinor, .ref h_m_fields, .ref h_m_rowCounts, .ref h_m_elements, .ref h_m_numbers, .ref h_m_known, .ref h_m_ranks, .ref h_m_rankOf, .ref h_m_signOf, .ref h_m_order, .ref h_m_sizes, .ref h_m_coefficients, .ref h_m_choices, .ref h_m_sorted])), (h_m_rankOf, .inl (cB, m_rankOf_n, .inl m_rankOf)), (h_m_sizes, .inl (cI, m_sizes_n, .inl m_sizes)), (h_m_ranks, .inl (cI, m_ranks_n, .inl m_ranks)), (h_m_elements, .inl (cI, m_elements_n, .inl m_elements))]) hD hS hA [0, 1, 2, 3, 4] rfl
      refine va_calli (va_runV (As := [.int k0, .int set0]) (rest := []) ⟨hx, hb, hml, hown, hts⟩ (c_R_dualRank l dC dI cI cJ cB cZ cT cN H.size h_m h_m_one h_m_two h_m_three h_m_four h_m_five h_m_six h_m_seven h_m_eight h_m_work h_m_small h_m_pivots h_m_freeRows h_m_freeColumns h_m_minor h_m_smallMinor h_m_fields h_m_rowCounts h_m_elements h_m_numbers h_m_known h_m_ranks h_m_rankOf h_m_signOf h_m_order h_m_sizes h_m_coefficients h_m_choices h_m_sorted m_rows m_columns m_prime m_rankOf_n m_rankOf m_sizes_n m_sizes m_ranks_n m_ranks m_elements_n m_elements k0 set0 _ hc_29) (cwV 2 hts (tb_V tw_630 tw_632 tp_41 tw_6 tw_633) rfl rfl rfl (by decide +kernel) ⟨Nat.le_of_ble_eq_true rfl, Nat.le_of_ble_eq_true rfl⟩) ⟨fun a U g mk q => by obtain ⟨q0, q1, qP, qK, qN, qD⟩ := q; exact ⟨q0, q1, qP, va_K.moved (u := U) (U := U.calling g mk a) (Vm.Alike.refl U.vm) qK, qN.same rfl, qD⟩, va_recv hK hPc (ci := 6) (q0 := 0) rfl rfl, fun U hU hW => ⟨rfl, by rw [hU], by rw [hU]; exact hPc, va_K.moved hW.alike hK, hN.warm hW, hDc.weaken (fun _ _ _ _ => trivial)⟩⟩ rfl rfl hl.1 rfl (lv_room (Nat.le_of_ble_eq_true rfl)) d_Mo_isCircuit_7 ⟨Nat.zero_le _, Nat.zero_le _⟩) hS (fun q _ h => hFc q h) hFc (fun rr u t H1 locs ht hvm hw hB hz1 hk1 hS => ?_)
      replace hw := hw.symm
      subst hw
      obtain ⟨hP1, -, hD1⟩ := hB
      rw [ht] at hP1
      obtain ⟨hP, hD⟩ := va_join (wr := []) (w1 := [(h_m, .inr (6, [.ref h_m_one, .ref h_m_two, .ref h_m_three, .ref h_m_four, .ref h_m_five, .ref h_m_six, .ref h_m_seven, .ref h_m_eight, .ref h_m_work, .ref h_m_small, .int m_rows, .int m_columns, .int m_prime, .ref h_m_pivots, .ref h_m_freeRows, .ref h_m_freeColumns, .ref h_m_minor, .ref h_m_smallMinor, .ref h_m_fields, .ref h_m_rowCounts, .ref h_m_elements, .ref h_m_numbers, .ref h_m_known, .ref h_m_ranks, .ref h_m_rankOf, .ref h_m_signOf, .ref h_m_order, .ref h_m_sizes, .ref h_m_coefficients, .ref h_m_choices, .ref h_m_sorted])), (h_m_rankOf, .inl (cB, m_rankOf_n, .inl m_rankOf)), (h_m_sizes, .inl (cI, m_sizes_n, .inl m_sizes)), (h_m_ranks, .inl (cI, m_ranks_n, .inl m_ranks)), (h_m_elements, .inl (cI, m_elements_n, .inl m_elements))]) hP hD [0, 1, 2, 3, 4] [] rfl rfl (by decide) (by decide) hk1 hFc hP1 hD1
      generalize H1 = H at hP hS ⊢
      have hP : va_P (dC, dI) cl_all [(h_m, .inr (6, [.ref h_m_one, .ref h_m_two, .ref h_m_three, .ref h_m_four, .ref h_m_five, .ref h_m_six, .ref h_m_seven, .ref h_m_eight, .ref h_m_work, .ref h_m_small, .int m_rows, .int m_columns, .int m_prime, .ref h_m_pivots, .ref h_m_freeRows, .ref h_m_freeColumns, .ref h_m_minor, .ref h_m_smallMinor, .ref h_m_fields, .ref h_m_rowCounts, .ref h_m_elements, .ref h_m_numbers, .ref h_m_known, .ref h_m_ranks, .ref h_m_rankOf, .ref h_m_signOf, .ref h_m_order, .ref h_m_sizes, .ref h_m_coefficients, .ref h_m_choices, .ref h_m_sorted])), (h_m_rankOf, .inl (cB, m_rankOf_n, .inl m_rankOf)), (h_m_sizes, .inl (cI, m_sizes_n, .inl m_sizes)), (h_m_ranks, .inl (cI, m_ranks_n, .inl m_ranks)), (h_m_elements, .inl (cI, m_elements_n, .inl m_elements))] H := hP.sub [0, 1, 2, 3, 4] rfl
      have hD : va_D A [(h_m, .inr (6, [.ref h_m_one, .ref h_m_two, .ref h_m_three, .ref h_m_four, .ref h_m_five, .ref h_m_six, .ref h_m_seven, .ref h_m_eight, .ref h_m_work, .ref h_m_small, .int m_rows, .int m_columns, .int m_prime, .ref h_m_pivots, .ref h_m_freeRows, .ref h_m_freeColumns, .ref h_m_minor, .ref h_m_smallMinor, .ref h_m_fields, .ref h_m_rowCounts, .ref h_m_elements, .ref h_m_numbers, .ref h_m_known, .ref h_m_ranks, .ref h_m_rankOf, .ref h_m_signOf, .ref h_m_order, .ref h_m_sizes, .ref h_m_coefficients, .ref h_m_choices, .ref h_m_sorted])), (h_m_rankOf, .inl (cB, m_rankOf_n, .inl m_rankOf)), (h_m_sizes, .inl (cI, m_sizes_n, .inl m_sizes)), (h_m_ranks, .inl (cI, m_ranks_n, .inl m_ranks)), (h_m_elements, .inl (cI, m_elements_n, .inl m_elements))] := hD.sub [0, 1, 2, 3, 4] (by decide) rfl
      refine lv_goto (tgt := 19) hx hb d_Mo_isCircuit_10 (by decide) ?_
      exact J_19 _ h _ _ hP hD hS _ (lv_sub hl [0, 1, 2, 3] rfl)
theorem d_Mo_isFlat_0 : decode prog_7_method_31_code 0 = .ok (.iconst 1, 1) := by decide +kernel
theorem d_Mo_isFlat_1 : decode prog_7_method_31_code 1 = .ok (.istore_n 3, 1) := by decide +kernel
theorem d_Mo_isFlat_2 : decode prog_7_method_31_code 2 = .ok (.iconst 0, 1) := by decide +kernel
theorem d_Mo_isFlat_3 : decode prog_7_method_31_code 3 = .ok (.istore 4, 2) := by decide +kernel
theorem d_Mo_isFlat_5 : decode prog_7_method_31_code 5 = .ok (.iload 4, 2) := by decide +kernel
theorem d_Mo_isFlat_7 : decode prog_7_method_31_code 7 = .ok (.aload_n 0, 1) := by decide +kernel
theorem d_Mo_isFlat_8 : decode prog_7_method_31_code 8 = .ok (.getfield 159, 3) := by decide +kernel
theorem d_Mo_isFlat_11 : decode prog_7_method_31_code 11 = .ok (.iload_n 1, 1) := by decide +kernel
theorem d_Mo_isFlat_12 : decode prog_7_method_31_code 12 = .ok (.iaload, 1) := by decide +kernel
theorem d_Mo_isFlat_13 : decode prog_7_method_31_code 13 = .ok (.if_icmp .ge 49, 3) := by decide +kernel
theorem d_Mo_isFlat_16 : decode prog_7_method_31_code 16 = .ok (.iload_n 3, 1) := by decide +kernel
theorem d_Mo_isFlat_17 : decode prog_7_method_31_code 17 = .ok (.ifCond .eq 45, 3) := by decide +kernel
theorem d_Mo_isFlat_20 : decode prog_7_method_31_code 20 = .ok (.iload_n 2, 1) := by decide +kernel
theorem d_Mo_isFlat_21 : decode prog_7_method_31_code 21 = .ok (.iload 4, 2) := by decide +kernel
theorem d_Mo_isFlat_23 : decode prog_7_method_31_code 23 = .ok (.ishr, 1) := by decide +kernel
theorem d_Mo_isFlat_24 : decode prog_7_method_31_code 24 = .ok (.iconst 1, 1) := by decide +kernel
theorem d_Mo_isFlat_25 : decode prog_7_method_31_code 25 = .ok (.iand, 1) := by decide +kernel
theorem d_Mo_isFlat_26 : decode prog_7_method_31_code 26 = .ok (.iconst 1, 1) := by decide +kernel
theorem d_Mo_isFlat_27 : decode prog_7_method_31_code 27 = .ok (.if_icmp .eq 23, 3) := by decide +kernel
theorem d_Mo_isFlat_30 : decode prog_7_method_31_code 30 = .ok (.aload_n 0, 1) := by decide +kernel
theorem d_Mo_isFlat_31 : decode prog_7_method_31_code 31 = .ok (.iload_n 1, 1) := by decide +kernel
theorem d_Mo_isFlat_32 : decode prog_7_method_31_code 32 = .ok (.iload_n 2, 1) := by decide +kernel
theorem d_Mo_isFlat_33 : decode prog_7_method_31_code 33 = .ok (.iconst 1, 1) := by decide +kernel
theorem d_Mo_isFlat_34 : decode prog_7_method_31_code 34 = .ok (.iload 4, 2) := by decide +kernel
theorem d_Mo_isFlat_36 : decode prog_7_method_31_code 36 = .ok (.ishl, 1) := by decide +kernel
theorem d_Mo_isFlat_37 : decode prog_7_method_31_code 37 = .ok (.ior, 1) := by decide +kernel
theorem d_Mo_isFlat_38 : decode prog_7_method_31_code 38 = .ok (.invokevirtual 222, 3) := by decide +kernel
theorem d_Mo_isFlat_41 : decode prog_7_method_31_code 41 = .ok (.aload_n 0, 1) := by decide +kernel
theorem d_Mo_isFlat_42 : decode prog_7_method_31_code 42 = .ok (.iload_n 1, 1) := by decide +kernel
theorem d_Mo_isFlat_43 : decode prog_7_method_31_code 43 = .ok (.iload_n 2, 1) := by decide +kernel
theorem d_Mo_isFlat_44 : decode prog_7_method_31_code 44 = .ok (.invokevirtual 222, 3) := by decide +kernel
theorem d_Mo_isFlat_47 : decode prog_7_method_31_code 47 = .ok (.if_icmp .le 7, 3) := by decide +kernel
theorem d_Mo_isFlat_50 : decode prog_7_method_31_code 50 = .ok (.iconst 1, 1) := by decide +kernel
theorem d_Mo_isFlat_51 : decode prog_7_method_31_code 51 = .ok (.goto 4, 3) := by decide +kernel
theorem d_Mo_isFlat_54 : decode prog_7_method_31_code 54 = .ok (.iconst 0, 1) := by decide +kernel
theorem d_Mo_isFlat_55 : decode prog_7_method_31_code 55 = .ok (.istore_n 3, 1) := by decide +kernel
theorem d_Mo_isFlat_56 : decode prog_7_method_31_code 56 = .ok (.iinc 4 1, 3) := by decide +kernel
theorem d_Mo_isFlat_59 : decode prog_7_method_31_code 59 = .ok (.goto (-54), 3) := by decide +kernel
theorem d_Mo_isFlat_62 : decode prog_7_method_31_code 62 = .ok (.iload_n 3, 1) := by decide +kernel
theorem d_Mo_isFlat_63 : decode prog_7_method_31_code 63 = .ok (.ireturn, 1) := by decide +kernel
def f_R_isFlat (m_rankOf_n : Nat) (m_rankOf : Nat → Int32) (m_elements_n : Nat) (m_elements : Nat → Int32) (k0 : Int32) (set0 : Int32) : Option (Int32) :=
  lo2 (fun k_5 (v4_1 : Int32) (v3_2 : Int32) => ck_in k0 m_elements_n <| ck_if ((m_elements k0.toNatClampNeg) ≤ v4_1) (ck_z v3_2 <| some v3_2) (ck_if (v3_2 = 0) (ck_z v3_2 <| some v3_2) (ck_jn (fun (s0_8 : Int32) => ck_nm (v4_1 + 1) <| fun x_9 => k_5 x_9 s0_8) <| fun k_55 => ck_jn (fun (_ : Unit) => k_55 1) <| fun k_50 => ck_if (((set0 >>> (v4_1 &&& 31)) &&& 1) = 1) (k_50 ()) (ck_b1 (f_R_r m_rankOf_n m_rankOf k0 (set0 ||| ((1 : Int32) <<< (v4_1 &&& 31)))) <| fun r_11 => ck_b1 (f_R_r m_rankOf_n m_rankOf k0 set0) <| fun r_13 => ck_if (r_11 ≤ r_13) (k_55 0) (k_50 ()))))) ck_F 0 1
set_option maxHeartbeats 4000000 in
set_option maxRecDepth 100000 in
theorem c_R_isFlat (l : Launch) (dC : Nat → ClassId) (dI : Nat → Nat → Nat) (cI cJ cB cZ cT cN : ClassId) (sz : Nat) (h_m : Nat) (h_m_one : Nat) (h_m_two : Nat) (h_m_three : Nat) (h_m_four : Nat) (h_m_five : Nat) (h_m_six : Nat) (h_m_seven : Nat) (h_m_eight : Nat) (h_m_work : Nat) (h_m_small : Nat) (h_m_pivots : Nat) (h_m_freeRows : Nat) (h_m_freeColumns : Nat) (h_m_minor : Nat) (h_m_smallMinor : Nat) (h_m_fields : Nat) (h_m_rowCounts : Nat) (h_m_elements : Nat) (h_m_numbers : Nat) (h_m_known : Nat) (h_m_ranks : Nat) (h_m_rankOf : Nat) (h_m_signOf : Nat) (h_m_order : Nat) (h_m_sizes : Nat) (h_m_coefficients : Nat) (h_m_choices : Nat) (h_m_sorted : Nat) (m_rows : Int32) (m_columns : Int32) (m_prime : Int32) (m_rankOf_n : Nat) (m_rankOf : Nat → Int32) (m_elements_n : Nat) (m_elements : Nat → Int32) (k0 : Int32) (set0 : Int32) (r : Int32) (h : f_R_isFlat m_rankOf_n m_rankOf m_elements_n m_elements k0 set0 = some r) : Met l y_Mo_isFlat w_Mo_isFlat ({ frames := 1, cells := 0, slots := 0, locals := 22 } : Room) (va_Pc [.ref h_m, .int k0, .int set0] (fun U => U.heap.size = sz ∧ va_P (dC, dI) cl_all [(h_m, .inr (6, [.ref h_m_one, .ref h_m_two, .ref h_m_three, .ref h_m_four, .ref h_m_five, .ref h_m_six, .ref h_m_seven, .ref h_m_eight, .ref h_m_work, .ref h_m_small, .int m_rows, .int m_columns, .int m_prime, .ref h_m_pivots, .ref h_m_freeRows, .ref h_m_freeColumns, .ref h_m_minor, .ref h_m_smallMinor, .ref h_m_fields, .ref h_m_rowCounts, .ref h_m_elements, .ref h_m_numbers, .ref h_m_known, .ref h_m_ranks, .ref h_m_rankOf, .ref h_m_signOf, .ref h_m_order, .ref h_m_sizes, .ref h_m_coefficients, .ref h_m_choices, .ref h_m_sorted])), (h_m_rankOf, .inl (cB, m_rankOf_n, .inl m_rankOf)), (h_m_elements, .inl (cI, m_elements_n, .inl m_elements))] U.heap ∧ va_K (dC, dI) cl_all [(cI, .int), (cJ, .long), (cB, .byte), (cZ, .boolean), (cT, .object "BasisWalk$Table"), (cN, .object "BasisWalkModel$Num")] U ∧ NW U ∧ va_D (fun _ => True) [(h_m, .inr (6, [.ref h_m_one, .ref h_m_two, .ref h_m_three, .ref h_m_four, .ref h_m_five, .ref h_m_six, .ref h_m_seven, .ref h_m_eight, .ref h_m_work, .ref h_m_small, .int m_rows, .int m_columns, .int m_prime, .ref h_m_pivots, .ref h_m_freeRows, .ref h_m_freeColumns, .ref h_m_minor, .ref h_m_smallMinor, .ref h_m_fields, .ref h_m_rowCounts, .ref h_m_elements, .ref h_m_numbers, .ref h_m_known, .ref h_m_ranks, .ref h_m_rankOf, .ref h_m_signOf, .ref h_m_order, .ref h_m_sizes, .ref h_m_coefficients, .ref h_m_choices, .ref h_m_sorted])), (h_m_rankOf, .inl (cB, m_rankOf_n, .inl m_rankOf)), (h_m_elements, .inl (cI, m_elements_n, .inl m_elements))])) (va_Qi (fun (v : Int32) (_ : Unit) => v = r) (fun (u : Unit) (t : State) => va_P (dC, dI) cl_all [(h_m, .inr (6, [.ref h_m_one, .ref h_m_two, .ref h_m_three, .ref h_m_four, .ref h_m_five, .ref h_m_six, .ref h_m_seven, .ref h_m_eight, .ref h_m_work, .ref h_m_small, .int m_rows, .int m_columns, .int m_prime, .ref h_m_pivots, .ref h_m_freeRows, .ref h_m_freeColumns, .ref h_m_minor, .ref h_m_smallMinor, .ref h_m_fields, .ref h_m_rowCounts, .ref h_m_elements, .ref h_m_numbers, .ref h_m_known, .ref h_m_ranks, .ref h_m_rankOf, .ref h_m_signOf, .ref h_m_order, .ref h_m_sizes, .ref h_m_coefficients, .ref h_m_choices, .ref h_m_sorted])), (h_m_rankOf, .inl (cB, m_rankOf_n, .inl m_rankOf)), (h_m_elements, .inl (cI, m_elements_n, .inl m_elements))] t.heap ∧ va_K (dC, dI) cl_all [(cI, .int), (cJ, .long), (cB, .byte), (cZ, .boolean), (cT, .object "BasisWalk$Table"), (cN, .object "BasisWalkModel$Num")] t ∧ va_D (va_A [(h_m, .inr (6, [.ref h_m_one, .ref h_m_two, .ref h_m_three, .ref h_m_four, .ref h_m_five, .ref h_m_six, .ref h_m_seven, .ref h_m_eight, .ref h_m_work, .ref h_m_small, .int m_rows, .int m_columns, .int m_prime, .ref h_m_pivots, .ref h_m_freeRows, .ref h_m_freeColumns, .ref h_m_minor, .ref h_m_smallMinor, .ref h_m_fields, .ref h_m_rowCounts, .ref h_m_elements, .ref h_m_numbers, .ref h_m_known, .ref h_m_ranks, .ref h_m_rankOf, .ref h_m_signOf, .ref h_m_order, .ref h_m_sizes, .ref h_m_coefficients, .ref h_m_choices, .ref h_m_sorted])), (h_m_rankOf, .inl (cB, m_rankOf_n, .inl m_rankOf)), (h_m_elements, .inl (cI, m_elements_n, .inl m_elements))] sz) [(h_m, .inr (6, [.ref h_m_one, .ref h_m_two, .ref h_m_three, .ref h_m_four, .ref h_m_five, .ref h_m_six, .ref h_m_seven, .ref h_m_eight, .ref h_m_work, .ref h_m_small, .int m_rows, .int m_columns, .int m_prime, .ref h_m_pivots, .ref h_m_freeRows, .ref h_m_freeColumns, .ref h_m_minor, .ref h_m_smallMinor, .ref h_m_fields, .ref h_m_rowCounts, .ref h_m_elements, .ref h_m_numbers, .ref h_m_known, .ref h_m_ranks, .ref h_m_rankOf, .ref h_m_signOf, .ref h_m_order, .ref h_m_sizes, .ref h_m_coefficients, .ref h_m_choices, .ref h_m_sorted])), (h_m_rankOf, .inl (cB, m_rankOf_n, .inl m_rankOf)), (h_m_elements, .inl (cI, m_elements_n, .inl m_elements))]) (va_A [(h_m, .inr (6, [.ref h_m_one, .ref h_m_two, .ref h_m_three, .ref h_m_four, .ref h_m_five, .ref h_m_six, .ref h_m_seven, .ref h_m_eight, .ref h_m_work, .ref h_m_small, .int m_rows, .int m_columns, .int m_prime, .ref h_m_pivots, .ref h_m_freeRows, .ref h_m_freeColumns, .ref h_m_minor, .ref h_m_smallMinor, .ref h_m_fields, .ref h_m_rowCounts, .ref h_m_elements, .ref h_m_numbers, .ref h_m_known, .ref h_m_ranks, .ref h_m_rankOf, .ref h_m_signOf, .ref h_m_order, .ref h_m_sizes, .ref h_m_coefficients, .ref h_m_choices, .ref h_m_sorted])), (h_m_rankOf, .inl (cB, m_rankOf_n, .inl m_rankOf)), (h_m_elements, .inl (cI, m_elements_n, .inl m_elements))] sz)) 0 0 (va_A [(h_m, .inr (6, [.ref h_m_one, .ref h_m_two, .ref h_m_three, .ref h_m_four, .ref h_m_five, .ref h_m_six, .ref h_m_seven, .ref h_m_eight, .ref h_m_work, .ref h_m_small, .int m_rows, .int m_columns, .int m_prime, .ref h_m_pivots, .ref h_m_freeRows, .ref h_m_freeColumns, .ref h_m_minor, .ref h_m_smallMinor, .ref h_m_fields, .ref h_m_rowCounts, .ref h_m_elements, .ref h_m_numbers, .ref h_m_known, .ref h_m_ranks, .ref h_m_rankOf, .ref h_m_signOf, .ref h_m_order, .ref h_m_sizes, .ref h_m_coefficients, .ref h_m_choices, .ref h_m_sorted])), (h_m_rankOf, .inl (cB, m_rankOf_n, .inl m_rankOf)), (h_m_elements, .inl (cI, m_elements_n, .inl m_elements))] sz) := by
  refine Met.ofW (cc := prog_7_method_31_code) (maxL := 5) (ret := (Option.some Jvm.ClassFile.FieldType.boolean)) (by decide) rfl ?_
  intro p e s m args below meth c s₁ B hml hv
  obtain ⟨hAR, hsz, hP, hK, hN, hD0⟩ := hv
  have hx := B.exec
  have hb := B.bytes
  have hr := B.returns
  have hts := atoms_spec (ws := w_Mo_isFlat) B.pre
  have hown : s.vm.findClass "BasisWalkModel" = some m.cls := findClass_of_methodNamed B.named
  have hlocks := B.notSynchronized
  clear B
  subst hsz
  have hD := hD0.self (sz := s.heap.size)
  generalize hAe : va_A [(h_m, .inr (6, [.ref h_m_one, .ref h_m_two, .ref h_m_three, .ref h_m_four, .ref h_m_five, .ref h_m_six, .ref h_m_seven, .ref h_m_eight, .ref h_m_work, .ref h_m_small, .int m_rows, .int m_columns, .int m_prime, .ref h_m_pivots, .ref h_m_freeRows, .ref h_m_freeColumns, .ref h_m_minor, .ref h_m_smallMinor, .ref h_m_fields, .ref h_m_rowCounts, .ref h_m_elements, .ref h_m_numbers, .ref h_m_known, .ref h_m_ranks, .ref h_m_rankOf, .ref h_m_signOf, .ref h_m_order, .ref h_m_sizes, .ref h_m_coefficients, .ref h_m_choices, .ref h_m_sorted])), (h_m_rankOf, .inl (cB, m_rankOf_n, .inl m_rankOf)), (h_m_elements, .inl (cI, m_elements_n, .inl m_elements))] s.heap.size = A at hD ⊢
  have hA : ∀ q : Nat, s.heap.size ≤ q → A q := fun q h => by rw [← hAe]; exact Or.inr h
  clear hAe hD0
  have hS : va_S A s.heap s.heap [] := va_S.rf
  have hl := lv_entry ([.ref h_m, .int k0, .int set0]) (n := 5) (Nat.le_of_ble_eq_true rfl)
  subst hAR
  rw [lg_entry_eq]
  generalize (lg_sl ([.ref h_m, .int k0, .int set0]) ++ List.replicate (5 - (lg_sl ([.ref h_m, .int k0, .int set0])).length) Slot.unset).toArray = ls at hl ⊢
  have hl : lv_has ls 5 [(0, .ref h_m), (1, .int k0), (2, .int set0)] := hl
  change W p l e ({ frames := 1, cells := 0, slots := 0, locals := 22 } : Room) s m _ below meth c s.heap [] 0 0 _ _
  generalize hARe : ([.ref h_m, .int k0, .int set0] : List Value).toArray = AR at hts ⊢
  clear hARe
  generalize hQ : MQ below _ AR s 0 0 A = QQ
  have fl0 := hts _ (List.mem_cons_of_mem _ tw_375)
  have iw1 := (fun w hw => List.mem_cons_of_mem _ (in_Mo w hw) : ∀ w ∈ u_ws "BasisWalkModel" T_Mo 31, w ∈ w_Mo_isFlat)
  obtain ⟨H, hHe⟩ : ∃ H : Heap, H = s.heap := ⟨_, rfl⟩
  rw [← hHe] at hP ⊢
  replace hS : va_S A s.heap H [] := by rw [hHe]; exact va_S.rf
  clear hHe
  unfold f_R_isFlat at h
  refine lv_iconst (v := 1) hx hb d_Mo_isFlat_0 (by decide) ?_
  refine lv_istore_n (lv' := [(3, .int 1), (0, .ref h_m), (1, .int k0), (2, .int set0)]) hx hb d_Mo_isFlat_1 rfl hl (by decide) rfl (fun ls hl => ?_)
  refine lv_iconst (v := 0) hx hb d_Mo_isFlat_2 (by decide) ?_
  refine lv_istore (lv' := [(4, .int 0), (3, .int 1), (0, .ref h_m), (1, .int k0), (2, .int set0)]) hx hb d_Mo_isFlat_3 hl (by decide) rfl (fun ls hl => ?_)
  refine lo2_W (r := r) (fun (v4_1 : Int32) (v3_2 : Int32) => ∀ (H : Heap) (locs : List Loc), va_P (dC, dI) cl_all [(h_m, .inr (6, [.ref h_m_one, .ref h_m_two, .ref h_m_three, .ref h_m_four, .ref h_m_five, .ref h_m_six, .ref h_m_seven, .ref h_m_eight, .ref h_m_work, .ref h_m_small, .int m_rows, .int m_columns, .int m_prime, .ref h_m_pivots, .ref h_m_freeRows, .ref h_m_freeColumns, .ref h_m_minor, .ref h_m_smallMinor, .ref h_m_fields, .ref h_m_rowCounts, .ref h_m_elements, .ref h_m_numbers, .ref h_m_known, .ref h_m_ranks, .ref h_m_rankOf, .ref h_m_signOf, .ref h_m_order, .ref h_m_sizes, .ref h_m_coefficients, .ref h_m_choices, .ref h_m_sorted])), (h_m_rankOf, .inl (cB, m_rankOf_n, .inl m_rankOf)), (h_m_elements, .inl (cI, m_elements_n, .inl m_elements))] H → va_D A [(h_m, .inr (6, [.ref h_m_one, .ref h_m_two, .ref h_m_three, .ref h_m_four, .ref h_m_five, .ref h_m_six, .ref h_m_seven, .ref h_m_eight, .ref h_m_work, .ref h_m_small, .int m_rows, .int m_columns, .int m_prime, .ref h_m_pivots, .ref h_m_freeRows, .ref h_m_freeColumns, .ref h_m_minor, .ref h_m_smallMinor, .ref h_m_fields, .ref h_m_rowCounts, .ref h_m_elements, .ref h_m_numbers, .ref h_m_known, .ref h_m_ranks, .ref h_m_rankOf, .ref h_m_signOf, .ref h_m_order, .ref h_m_sizes, .ref h_m_coefficients, .ref h_m_choices, .ref h_m_sorted])), (h_m_rankOf, .inl (cB, m_rankOf_n, .inl m_rankOf)), (h_m_elements, .inl (cI, m_elements_n, .inl m_elements))] → va_S A s.heap H locs → ∀ ls : Array Slot, lv_has ls 5 [(0, .ref h_m), (1, .int k0), (2, .int set0), (3, .int v3_2), (4, .int v4_1)] → W p l e ({ frames := 1, cells := 0, slots := 0, locals := 22 } : Room) s m AR below meth c H locs 0 0 QQ (F0 m 5 ls [])) ?_ _ _ _ h _ _ hP hD hS _ (lv_sub hl [2, 3, 4, 1, 0] rfl)
  intro k_5 v4_1 v3_2 J_5 h H locs hP hD hS ls hl
  refine lv_iload hx hb d_Mo_isFlat_5 (lv_at hl 4 rfl) ?_
  refine lv_aload_n hx hb d_Mo_isFlat_7 rfl (lv_at hl 0 rfl) ?_
  refine va_get (D := (dC, dI)) (ci := 6) (v := .ref h_m_elements) (C := "BasisWalkModel") (T := T_Mo) (N := 31) hx hb hts iw1 hown hK hP 0 rfl rfl 20 (by decide) fl0 (fun _ h9 => h9) rfl d_Mo_isFlat_8 ?_
  refine lv_iload_n hx hb d_Mo_isFlat_11 rfl (lv_at hl 1 rfl) ?_
  obtain ⟨g_3, h⟩ := ck_in_s h
  refine va_iald hx hb hK hP 2 0 rfl rfl g_3 d_Mo_isFlat_12 ?_
  refine lv_icmp_ge (tgt := 62) hx hb d_Mo_isFlat_13 (by decide) (fun c_4 => ?_) (fun c_4 => ?_)
  · replace h := ck_if_t h c_4
    refine lv_iload_n hx hb d_Mo_isFlat_62 rfl (lv_at hl 3 rfl) ?_
    obtain ⟨g_5, h⟩ := ck_z_s h
    obtain rfl := Option.some.inj h
    subst hQ
    exact W.zret (ty := .boolean) (v := v3_2) hx hb hr g_5.1 (fun t ht hW => ⟨⟨v3_2, (), rfl, rfl, by rw [ht]; exact hP, va_K.moved hW.alike hK, hD⟩, hS.F ht⟩) hS.2.2 d_Mo_isFlat_63
  · replace h := ck_if_f h c_4
    refine lv_iload_n hx hb d_Mo_isFlat_16 rfl (lv_at hl 3 rfl) ?_
    refine lv_if_eq (tgt := 62) hx hb d_Mo_isFlat_17 (by decide) (fun c_6 => ?_) (fun c_6 => ?_)
    · replace h := ck_if_t h c_6
      refine lv_iload_n hx hb d_Mo_isFlat_62 rfl (lv_at hl 3 rfl) ?_
      obtain ⟨g_7, h⟩ := ck_z_s h
      obtain rfl := Option.some.inj h
      subst hQ
      exact W.zret (ty := .boolean) (v := v3_2) hx hb hr g_7.1 (fun t ht hW => ⟨⟨v3_2, (), rfl, rfl, by rw [ht]; exact hP, va_K.moved hW.alike hK, hD⟩, hS.F ht⟩) hS.2.2 d_Mo_isFlat_63
    · replace h := ck_if_f h c_6
      refine lv_iload_n hx hb d_Mo_isFlat_20 rfl (lv_at hl 2 rfl) ?_
      refine lv_iload hx hb d_Mo_isFlat_21 (lv_at hl 4 rfl) ?_
      refine lv_ishr hx hb d_Mo_isFlat_23 ?_
      refine lv_iconst (v := 1) hx hb d_Mo_isFlat_24 (by decide) ?_
      refine lv_iand hx hb d_Mo_isFlat_25 ?_
      refine lv_iconst (v := 1) hx hb d_Mo_isFlat_26 (by decide) ?_
      refine ck_jn_W h (fun k' => ∀ (s0_8 : Int32), k' s0_8 = some r → ∀ (H : Heap) (locs : List Loc), va_P (dC, dI) cl_all [(h_m, .inr (6, [.ref h_m_one, .ref h_m_two, .ref h_m_three, .ref h_m_four, .ref h_m_five, .ref h_m_six, .ref h_m_seven, .ref h_m_eight, .ref h_m_work, .ref h_m_small, .int m_rows, .int m_columns, .int m_prime, .ref h_m_pivots, .ref h_m_freeRows, .ref h_m_freeColumns, .ref h_m_minor, .ref h_m_smallMinor, .ref h_m_fields, .ref h_m_rowCounts, .ref h_m_elements, .ref h_m_numbers, .ref h_m_known, .ref h_m_ranks, .ref h_m_rankOf, .ref h_m_signOf, .ref h_m_order, .ref h_m_sizes, .ref h_m_coefficients, .ref h_m_choices, .ref h_m_sorted])), (h_m_rankOf, .inl (cB, m_rankOf_n, .inl m_rankOf)), (h_m_elements, .inl (cI, m_elements_n, .inl m_elements))] H → va_D A [(h_m, .inr (6, [.ref h_m_one, .ref h_m_two, .ref h_m_three, .ref h_m_four, .ref h_m_five, .ref h_m_six, .ref h_m_seven, .ref h_m_eight, .ref h_m_work, .ref h_m_small, .int m_rows, .int m_columns, .int m_prime, .ref h_m_pivots, .ref h_m_freeRows, .ref h_m_freeColumns, .ref h_m_minor, .ref h_m_smallMinor, .ref h_m_fields, .ref h_m_rowCounts, .ref h_m_elements, .ref h_m_numbers, .ref h_m_known, .ref h_m_ranks, .ref h_m_rankOf, .ref h_m_signOf, .ref h_m_order, .ref h_m_sizes, .ref h_m_coefficients, .ref h_m_choices, .ref h_m_sorted])), (h_m_rankOf, .inl (cB, m_rankOf_n, .inl m_rankOf)), (h_m_elements, .inl (cI, m_elements_n, .inl m_elements))] → va_S A s.heap H locs → ∀ ls : Array Slot, lv_has ls 5 [(0, .ref h_m), (1, .int k0), (2, .int set0), (4, .int v4_1)] → W p l e ({ frames := 1, cells := 0, slots := 0, locals := 22 } : Room) s m AR below meth c H locs 0 0 QQ (F0 m 55 ls [.int s0_8])) ?_ ?_
      · intro s0_8 h H locs hP hD hS ls hl
        refine lv_istore_n (lv' := [(3, .int s0_8), (0, .ref h_m), (1, .int k0), (2, .int set0), (4, .int v4_1)]) hx hb d_Mo_isFlat_55 rfl hl (by decide) rfl (fun ls hl => ?_)
        obtain ⟨x_9, ex_9⟩ : ∃ y : Int32, y = v4_1 + 1 := ⟨_, rfl⟩
        replace h := ck_nm_s h ex_9
        refine lv_iinc (v := x_9) (lv' := [(4, .int x_9), (3, .int s0_8), (0, .ref h_m), (1, .int k0), (2, .int set0)]) hx hb d_Mo_isFlat_56 hl (k := 4) rfl (by rw [ex_9]; rfl) (by decide) rfl (fun ls hl => ?_)
        refine lv_goto (tgt := 5) hx hb d_Mo_isFlat_59 (by decide) ?_
        exact J_5 _ _ h _ _ hP hD hS _ (lv_sub hl [2, 3, 4, 1, 0] rfl)
      · intro k_55 J_55 h
        refine ck_jn_W h (fun k' => ∀ u : Unit, k' u = some r → ∀ (H : Heap) (locs : List Loc), va_P (dC, dI) cl_all [(h_m, .inr (6, [.ref h_m_one, .ref h_m_two, .ref h_m_three, .ref h_m_four, .ref h_m_five, .ref h_m_six, .ref h_m_seven, .ref h_m_eight, .ref h_m_work, .ref h_m_small, .int m_rows, .int m_columns, .int m_prime, .ref h_m_pivots, .ref h_m_freeRows, .ref h_m_freeColumns, .ref h_m_minor, .ref h_m_smallMinor, .ref h_m_fields, .ref h_m_rowCounts, .ref h_m_elements, .ref h_m_numbers, .ref h_m_known, .ref h_m_ranks, .ref h_m_rankOf, .ref h_m_signOf, .ref h_m_order, .ref h_m_sizes, .ref h_m_coefficients, .ref h_m_choices, .ref h_m_sorted])), (h_m_rankOf, .inl (cB, m_rankOf_n, .inl m_rankOf)), (h_m_elements, .inl (cI, m_elements_n, .inl m_elements))] H → va_D A [(h_m, .inr (6, [.ref h_m_one, .ref h_m_two, .ref h_m_three, .ref h_m_four, .ref h_m_five, .ref h_m_six, .ref h_m_seven, .ref h_m_eight, .ref h_m_work, .ref h_m_small, .int m_rows, .int m_columns, .int m_prime, .ref h_m_pivots, .ref h_m_freeRows, .ref h_m_freeColumns, .ref h_m_minor, .ref h_m_smallMinor, .ref h_m_fields, .ref h_m_rowCounts, .ref h_m_elements, .ref h_m_numbers, .ref h_m_known, .ref h_m_ranks, .ref h_m_rankOf, .ref h_m_signOf, .ref h_m_order, .ref h_m_sizes, .ref h_m_coefficients, .ref h_m_choices, .ref h_m_sorted])), (h_m_rankOf, .inl (cB, m_rankOf_n, .inl m_rankOf)), (h_m_elements, .inl (cI, m_elements_n, .inl m_elements))] → va_S A s.heap H locs → ∀ ls : Array Slot, lv_has ls 5 [(0, .ref h_m), (1, .int k0), (2, .int set0), (4, .int v4_1)] → W p l e ({ frames := 1, cells := 0, slots := 0, locals := 22 } : Room) s m AR below meth c H locs 0 0 QQ (F0 m 50 ls [])) ?_ ?_
        · intro _ h H locs hP hD hS ls hl
          refine lv_iconst (v := 1) hx hb d_Mo_isFlat_50 (by decide) ?_
          refine lv_goto (tgt := 55) hx hb d_Mo_isFlat_51 (by decide) ?_
          exact J_55 _ h _ _ hP hD hS _ (lv_sub hl [0, 1, 2, 3] rfl)
        · intro k_50 J_50 h
          refine lv_icmp_eq (tgt := 50) hx hb d_Mo_isFlat_27 (by decide) (fun c_10 => ?_) (fun c_10 => ?_)
          · replace h := ck_if_t h c_10
            exact J_50 _ h _ _ hP hD hS _ (lv_sub hl [0, 1, 2, 4] rfl)
          · replace h := ck_if_f h c_10
            refine lv_aload_n hx hb d_Mo_isFlat_30 rfl (lv_at hl 0 rfl) ?_
            refine lv_iload_n hx hb d_Mo_isFlat_31 rfl (lv_at hl 1 rfl) ?_
            refine lv_iload_n hx hb d_Mo_isFlat_32 rfl (lv_at hl 2 rfl) ?_
            refine lv_iconst (v := 1) hx hb d_Mo_isFlat_33 (by decide) ?_
            refine lv_iload hx hb d_Mo_isFlat_34 (lv_at hl 4 rfl) ?_
            refine lv_ishl hx hb d_Mo_isFlat_36 ?_
            refine lv_ior hx hb d_Mo_isFlat_37 ?_
            obtain ⟨r_11, hc_12, h⟩ := ck_b1_s h
            have hPc := hP.sub (ws' := [(h_m, .inr (6, [.ref h_m_one, .ref h_m_two, .ref h_m_three, .ref h_m_four, .ref h_m_five, .ref h_m_six, .ref h_m_seven, .ref h_m_eight, .ref h_m_work, .ref h_m_small, .int m_rows, .int m_columns, .int m_prime, .ref h_m_pivots, .ref h_m_freeRows, .ref h_m_freeColumns, .ref h_m_minor, .ref h_m_smallMinor, .ref h_m_fields, .ref h_m_rowCounts, .ref h_m_elements, .ref h_m_numbers, .ref h_m_known, .ref h_m_ranks, .ref h_m_rankOf, .ref h_m_signOf, .ref h_m_order, .ref h_m_sizes, .ref h_m_coefficients, .ref h_m_choices, .ref h_m_sorted])), (h_m_rankOf, .inl (cB, m_rankOf_n, .inl m_rankOf))]) [0, 1] rfl
            have hDc := hD.sub (ws' := [(h_m, .inr (6, [.ref h_m_one, .ref h_m_two, .ref h_m_three, .ref h_m_four, .ref h_m_five, .ref h_m_six, .ref h_m_seven, .ref h_m_eight, .ref h_m_work, .ref h_m_small, .int m_rows, .int m_columns, .int m_prime, .ref h_m_pivots, .ref h_m_freeRows, .ref h_m_freeColumns, .ref h_m_minor, .ref h_m_smallMinor, .ref h_m_fields, .ref h_m_rowCounts, .ref h_m_elements, .ref h_m_numbers, .ref h_m_known, .ref h_m_ranks, .ref h_m_rankOf, .ref h_m_signOf, .ref h_m_order, .ref h_m_sizes, .ref h_m_coefficients, .ref h_m_choices, .ref h_m_sorted])), (h_m_rankOf, .inl (cB, m_rankOf_n, .inl m_rankOf))]) [0, 1] (by decide) rfl
            have hFc := va_free (wc := [(h_m, .inr (6, [.ref h_m_one, .ref h_m_two, .ref h_m_three, .ref h_m_four, .ref h_m_five, .ref h_m_six, .ref h_m_seven, .ref h_m_eight, .ref h_m_work, .ref h_m_small, .int m_rows, .int m_columns, .int m_prime, .ref h_m_pivots, .ref h_m_freeRows, .ref h_m_freeColumns, .ref h_m_minor, .ref h_m_smallMinor, .ref h_m_fields, .ref h_m_rowCounts, .ref h_m_elements, .ref h_m_numbers, .ref h_m_known, .ref h_m_ranks, .ref h_m_rankOf, .ref h_m_signOf, .ref h_m_order, .ref h_m_sizes, .ref h_m_coefficients, .ref h_m_choices, .ref h_m_sorted])), (h_m_rankOf, .inl (cB, m_rankOf_n, .inl m_rankOf))]) hD hS hA [0, 1] rfl
            refine va_calli (va_runV (As := [.int k0, .int (set0 ||| ((1 : Int32) <<< (v4_1 &&& 31)))]) (rest := []) ⟨hx, hb, hml, hown, hts⟩ (c_R_r l dC dI cI cJ cB cZ cT cN H.size h_m h_m_one h_m_two h_m_three h_m_four h_m_five h_m_six h_m_seven h_m_eight h_m_work h_m_small h_m_pivots h_m_freeRows h_m_freeColumns h_m_minor h_m_smallMinor h_m_fields h_m_rowCounts h_m_elements h_m_numbers h_m_known h_m_ranks h_m_rankOf h_m_signOf h_m_order h_m_sizes h_m_coefficients h_m_choices h_m_sorted m_rows m_columns m_prime m_rankOf_n m_rankOf k0 (set0 ||| ((1 : Int32) <<< (v4_1 &&& 31))) _ hc_12) (cwV 2 hts (tb_V tw_602 tw_604 tp_35 tw_6 tw_605) rfl rfl rfl (by decide +kernel) ⟨Nat.le_of_ble_eq_true rfl, Nat.le_of_ble_eq_true rfl⟩) ⟨fun a U g mk q => by obtain ⟨q0, q1, qP, qK, qN, qD⟩ := q; exact ⟨q0, q1, qP, va_K.moved (u := U) (U := U.calling g mk a) (Vm.Alike.refl U.vm) qK, qN.same rfl, qD⟩, va_recv hK hPc (ci := 6) (q0 := 0) rfl rfl, fun U hU hW => ⟨rfl, by rw [hU], by rw [hU]; exact hPc, va_K.moved hW.alike hK, hN.warm hW, hDc.weaken (fun _ _ _ _ => trivial)⟩⟩ rfl rfl hl.1 rfl (lv_room (Nat.le_of_ble_eq_true rfl)) d_Mo_isFlat_38 ⟨Nat.zero_le _, Nat.zero_le _⟩) hS (fun q _ h => hFc q h) hFc (fun rr u t H1 locs ht hvm hw hB hz1 hk1 hS => ?_)
            replace hw := hw.symm
            subst hw
            obtain ⟨hP1, -, hD1⟩ := hB
            rw [ht] at hP1
            obtain ⟨hP, hD⟩ := va_join (wr := [(h_m_elements, .inl (cI, m_elements_n, .inl m_elements))]) (w1 := [(h_m, .inr (6, [.ref h_m_one, .ref h_m_two, .ref h_m_three, .ref h_m_four, .ref h_m_five, .ref h_m_six, .ref h_m_seven, .ref h_m_eight, .ref h_m_work, .ref h_m_small, .int m_rows, .int m_columns, .int m_prime, .ref h_m_pivots, .ref h_m_freeRows, .ref h_m_freeColumns, .ref h_m_minor, .ref h_m_smallMinor, .ref h_m_fields, .ref h_m_rowCounts, .ref h_m_elements, .ref h_m_numbers, .ref h_m_known, .ref h_m_ranks, .ref h_m_rankOf, .ref h_m_signOf, .ref h_m_order, .ref h_m_sizes, .ref h_m_coefficients, .ref h_m_choices, .ref h_m_sorted])), (h_m_rankOf, .inl (cB, m_rankOf_n, .inl m_rankOf))]) hP hD [0, 1] [2] rfl rfl (by decide) (by decide) hk1 hFc hP1 hD1
            generalize H1 = H at hP hS ⊢
            have hP : va_P (dC, dI) cl_all [(h_m, .inr (6, [.ref h_m_one, .ref h_m_two, .ref h_m_three, .ref h_m_four, .ref h_m_five, .ref h_m_six, .ref h_m_seven, .ref h_m_eight, .ref h_m_work, .ref h_m_small, .int m_rows, .int m_columns, .int m_prime, .ref h_m_pivots, .ref h_m_freeRows, .ref h_m_freeColumns, .ref h_m_minor, .ref h_m_smallMinor, .ref h_m_fields, .ref h_m_rowCounts, .ref h_m_elements, .ref h_m_numbers, .ref h_m_known, .ref h_m_ranks, .ref h_m_rankOf, .ref h_m_signOf, .ref h_m_order, .ref h_m_sizes, .ref h_m_coefficients, .ref h_m_choices, .ref h_m_sorted])), (h_m_rankOf, .inl (cB, m_rankOf_n, .inl m_rankOf)), (h_m_elements, .inl (cI, m_elements_n, .inl m_elements))] H := hP.sub [1, 2, 0] rfl
            have hD : va_D A [(h_m, .inr (6, [.ref h_m_one, .ref h_m_two, .ref h_m_three, .ref h_m_four, .ref h_m_five, .ref h_m_six, .ref h_m_seven, .ref h_m_eight, .ref h_m_work, .ref h_m_small, .int m_rows, .int m_columns, .int m_prime, .ref h_m_pivots, .ref h_m_freeRows, .ref h_m_freeColumns, .ref h_m_minor, .ref h_m_smallMinor, .ref h_m_fields, .ref h_m_rowCounts, .ref h_m_elements, .ref h_m_numbers, .ref h_m_known, .ref h_m_ranks, .ref h_m_rankOf, .ref h_m_signOf, .ref h_m_order, .ref h_m_sizes, .ref h_m_coefficients, .ref h_m_choices, .ref h_m_sorted])), (h_m_rankOf, .inl (cB, m_rankOf_n, .inl m_rankOf)), (h_m_elements, .inl (cI, m_elements_n, .inl m_elements))] := hD.sub [1, 2, 0] (by decide) rfl
            refine lv_aload_n hx hb d_Mo_isFlat_41 rfl (lv_at hl 0 rfl) ?_
            refine lv_iload_n hx hb d_Mo_isFlat_42 rfl (lv_at hl 1 rfl) ?_
            refine lv_iload_n hx hb d_Mo_isFlat_43 rfl (lv_at hl 2 rfl) ?_
            obtain ⟨r_13, hc_14, h⟩ := ck_b1_s h
            have hPc := hP.sub (ws' := [(h_m, .inr (6, [.ref h_m_one, .ref h_m_two, .ref h_m_three, .ref h_m_four, .ref h_m_five, .ref h_m_six, .ref h_m_seven, .ref h_m_eight, .ref h_m_work, .ref h_m_small, .int m_rows, .int m_columns, .int m_prime, .ref h_m_pivots, .ref h_m_freeRows, .ref h_m_freeColumns, .ref h_m_minor, .ref h_m_smallMinor, .ref h_m_fields, .ref h_m_rowCounts, .ref h_m_elements, .ref h_m_numbers, .ref h_m_known, .ref h_m_ranks, .ref h_m_rankOf, .ref h_m_signOf, .ref h_m_order, .ref h_m_sizes, .ref h_m_coefficients, .ref h_m_choices, .ref h_m_sorted])), (h_m_rankOf, .inl (cB, m_rankOf_n, .inl m_rankOf))]) [0, 1] rfl
            have hDc := hD.sub (ws' := [(h_m, .inr (6, [.ref h_m_one, .ref h_m_two, .ref h_m_three, .ref h_m_four, .ref h_m_five, .ref h_m_six, .ref h_m_seven, .ref h_m_eight, .ref h_m_work, .ref h_m_small, .int m_rows, .int m_columns, .int m_prime, .ref h_m_pivots, .ref h_m_freeRows, .ref h_m_freeColumns, .ref h_m_minor, .ref h_m_smallMinor, .ref h_m_fields, .ref h_m_rowCounts, .ref h_m_elements, .ref h_m_numbers, .ref h_m_known, .ref h_m_ranks, .ref h_m_rankOf, .ref h_m_signOf, .ref h_m_order, .ref h_m_sizes, .ref h_m_coefficients, .ref h_m_choices, .ref h_m_sorted])), (h_m_rankOf, .inl (cB, m_rankOf_n, .inl m_rankOf))]) [0, 1] (by decide) rfl
            have hFc := va_free (wc := [(h_m, .inr (6, [.ref h_m_one, .ref h_m_two, .ref h_m_three, .ref h_m_four, .ref h_m_five, .ref h_m_six, .ref h_m_seven, .ref h_m_eight, .ref h_m_work, .ref h_m_small, .int m_rows, .int m_columns, .int m_prime, .ref h_m_pivots, .ref h_m_freeRows, .ref h_m_freeColumns, .ref h_m_minor, .ref h_m_smallMinor, .ref h_m_fields, .ref h_m_rowCounts, .ref h_m_elements, .ref h_m_numbers, .ref h_m_known, .ref h_m_ranks, .ref h_m_rankOf, .ref h_m_signOf, .ref h_m_order, .ref h_m_sizes, .ref h_m_coefficients, .ref h_m_choices, .ref h_m_sorted])), (h_m_rankOf, .inl (cB, m_rankOf_n, .inl m_rankOf))]) hD hS hA [0, 1] rfl
            refine va_calli (va_runV (As := [.int k0, .int set0]) (rest := [.int r_11]) ⟨hx, hb, hml, hown, hts⟩ (c_R_r l dC dI cI cJ cB cZ cT cN H.size h_m h_m_one h_m_two h_m_three h_m_four h_m_five h_m_six h_m_seven h_m_eight h_m_work h_m_small h_m_pivots h_m_freeRows h_m_freeColumns h_m_minor h_m_smallMinor h_m_fields h_m_rowCounts h_m_elements h_m_numbers h_m_known h_m_ranks h_m_rankOf h_m_signOf h_m_order h_m_sizes h_m_coefficients h_m_choices h_m_sorted m_rows m_columns m_prime m_rankOf_n m_rankOf k0 set0 _ hc_14) (cwV 2 hts (tb_V tw_602 tw_604 tp_35 tw_6 tw_605) rfl rfl rfl (by decide +kernel) ⟨Nat.le_of_ble_eq_true rfl, Nat.le_of_ble_eq_true rfl⟩) ⟨fun a U g mk q => by obtain ⟨q0, q1, qP, qK, qN, qD⟩ := q; exact ⟨q0, q1, qP, va_K.moved (u := U) (U := U.calling g mk a) (Vm.Alike.refl U.vm) qK, qN.same rfl, qD⟩, va_recv hK hPc (ci := 6) (q0 := 0) rfl rfl, fun U hU hW => ⟨rfl, by rw [hU], by rw [hU]; exact hPc, va_K.moved hW.alike hK, hN.warm hW, hDc.weaken (fun _ _ _ _ => trivial)⟩⟩ rfl rfl hl.1 rfl (lv_room (Nat.le_of_ble_eq_true rfl)) d_Mo_isFlat_44 ⟨Nat.zero_le _, Nat.zero_le _⟩) hS (fun q _ h => hFc q h) hFc (fun rr u t H1 locs ht hvm hw hB hz1 hk1 hS => ?_)
            replace hw := hw.symm
            subst hw
            obtain ⟨hP1, -, hD1⟩ := hB
            rw [ht] at hP1
            obtain ⟨hP, hD⟩ := va_join (wr := [(h_m_elements, .inl (cI, m_elements_n, .inl m_elements))]) (w1 := [(h_m, .inr (6, [.ref h_m_one, .ref h_m_two, .ref h_m_three, .ref h_m_four, .ref h_m_five, .ref h_m_six, .ref h_m_seven, .ref h_m_eight, .ref h_m_work, .ref h_m_small, .int m_rows, .int m_columns, .int m_prime, .ref h_m_pivots, .ref h_m_freeRows, .ref h_m_freeColumns, .ref h_m_minor, .ref h_m_smallMinor, .ref h_m_fields, .ref h_m_rowCounts, .ref h_m_elements, .ref h_m_numbers, .ref h_m_known, .ref h_m_ranks, .ref h_m_rankOf, .ref h_m_signOf, .ref h_m_order, .ref h_m_sizes, .ref h_m_coefficients, .ref h_m_choices, .ref h_m_sorted])), (h_m_rankOf, .inl (cB, m_rankOf_n, .inl m_rankOf))]) hP hD [0, 1] [2] rfl rfl (by decide) (by decide) hk1 hFc hP1 hD1
            generalize H1 = H at hP hS ⊢
            have hP : va_P (dC, dI) cl_all [(h_m, .inr (6, [.ref h_m_one, .ref h_m_two, .ref h_m_three, .ref h_m_four, .ref h_m_five, .ref h_m_six, .ref h_m_seven, .ref h_m_eight, .ref h_m_work, .ref h_m_small, .int m_rows, .int m_columns, .int m_prime, .ref h_m_pivots, .ref h_m_freeRows, .ref h_m_freeColumns, .ref h_m_minor, .ref h_m_smallMinor, .ref h_m_fields, .ref h_m_rowCounts, .ref h_m_elements, .ref h_m_numbers, .ref h_m_known, .ref h_m_ranks, .ref h_m_rankOf, .ref h_m_signOf, .ref h_m_order, .ref h_m_sizes, .ref h_m_coefficients, .ref h_m_choices, .ref h_m_sorted])), (h_m_rankOf, .inl (cB, m_rankOf_n, .inl m_rankOf)), (h_m_elements, .inl (cI, m_elements_n, .inl m_elements))] H := hP.sub [1, 2, 0] rfl
            have hD : va_D A [(h_m, .inr (6, [.ref h_m_one, .ref h_m_two, .ref h_m_three, .ref h_m_four, .ref h_m_five, .ref h_m_six, .ref h_m_seven, .ref h_m_eight, .ref h_m_work, .ref h_m_small, .int m_rows, .int m_columns, .int m_prime, .ref h_m_pivots, .ref h_m_freeRows, .ref h_m_freeColumns, .ref h_m_minor, .ref h_m_smallMinor, .ref h_m_fields, .ref h_m_rowCounts, .ref h_m_elements, .ref h_m_numbers, .ref h_m_known, .ref h_m_ranks, .ref h_m_rankOf, .ref h_m_signOf, .ref h_m_order, .ref h_m_sizes, .ref h_m_coefficients, .ref h_m_choices, .ref h_m_sorted])), (h_m_rankOf, .inl (cB, m_rankOf_n, .inl m_rankOf)), (h_m_elements, .inl (cI, m_elements_n, .inl m_elements))] := hD.sub [1, 2, 0] (by decide) rfl
            refine lv_icmp_le (tgt := 54) hx hb d_Mo_isFlat_47 (by decide) (fun c_15 => ?_) (fun c_15 => ?_)
            · replace h := ck_if_t h c_15
              refine lv_iconst (v := 0) hx hb d_Mo_isFlat_54 (by decide) ?_
              exact J_55 _ h _ _ hP hD hS _ (lv_sub hl [0, 1, 2, 4] rfl)
            · replace h := ck_if_f h c_15
              exact J_50 _ h _ _ hP hD hS _ (lv_sub hl [0, 1, 2, 4] rfl)
theorem d_Mo_isOf_0 : decode prog_7_method_32_code 0 = .ok (.iload_n 2, 1) := by decide +kernel
theorem d_Mo_isOf_1 : decode prog_7_method_32_code 1 = .ok (.ifCond .ne 35, 3) := by decide +kernel
theorem d_Mo_isOf_4 : decode prog_7_method_32_code 4 = .ok (.aload_n 0, 1) := by decide +kernel
theorem d_Mo_isOf_5 : decode prog_7_method_32_code 5 = .ok (.getfield 182, 3) := by decide +kernel
theorem d_Mo_isOf_8 : decode prog_7_method_32_code 8 = .ok (.iload_n 3, 1) := by decide +kernel
theorem d_Mo_isOf_9 : decode prog_7_method_32_code 9 = .ok (.iaload, 1) := by decide +kernel
theorem d_Mo_isOf_10 : decode prog_7_method_32_code 10 = .ok (.aload_n 0, 1) := by decide +kernel
theorem d_Mo_isOf_11 : decode prog_7_method_32_code 11 = .ok (.getfield 169, 3) := by decide +kernel
theorem d_Mo_isOf_14 : decode prog_7_method_32_code 14 = .ok (.iload_n 1, 1) := by decide +kernel
theorem d_Mo_isOf_15 : decode prog_7_method_32_code 15 = .ok (.iaload, 1) := by decide +kernel
theorem d_Mo_isOf_16 : decode prog_7_method_32_code 16 = .ok (.if_icmp .ne 16, 3) := by decide +kernel
theorem d_Mo_isOf_19 : decode prog_7_method_32_code 19 = .ok (.aload_n 0, 1) := by decide +kernel
theorem d_Mo_isOf_20 : decode prog_7_method_32_code 20 = .ok (.iload_n 1, 1) := by decide +kernel
theorem d_Mo_isOf_21 : decode prog_7_method_32_code 21 = .ok (.iload_n 3, 1) := by decide +kernel
theorem d_Mo_isOf_22 : decode prog_7_method_32_code 22 = .ok (.invokevirtual 232, 3) := by decide +kernel
theorem d_Mo_isOf_25 : decode prog_7_method_32_code 25 = .ok (.ifCond .eq 7, 3) := by decide +kernel
theorem d_Mo_isOf_28 : decode prog_7_method_32_code 28 = .ok (.iconst 1, 1) := by decide +kernel
theorem d_Mo_isOf_29 : decode prog_7_method_32_code 29 = .ok (.goto 37, 3) := by decide +kernel
theorem d_Mo_isOf_32 : decode prog_7_method_32_code 32 = .ok (.iconst 0, 1) := by decide +kernel
theorem d_Mo_isOf_33 : decode prog_7_method_32_code 33 = .ok (.goto 33, 3) := by decide +kernel
theorem d_Mo_isOf_36 : decode prog_7_method_32_code 36 = .ok (.iload_n 2, 1) := by decide +kernel
theorem d_Mo_isOf_37 : decode prog_7_method_32_code 37 = .ok (.iconst 3, 1) := by decide +kernel
theorem d_Mo_isOf_38 : decode prog_7_method_32_code 38 = .ok (.if_icmp .ne 12, 3) := by decide +kernel
theorem d_Mo_isOf_41 : decode prog_7_method_32_code 41 = .ok (.aload_n 0, 1) := by decide +kernel
theorem d_Mo_isOf_42 : decode prog_7_method_32_code 42 = .ok (.iload_n 1, 1) := by decide +kernel
theorem d_Mo_isOf_43 : decode prog_7_method_32_code 43 = .ok (.iload_n 3, 1) := by decide +kernel
theorem d_Mo_isOf_44 : decode prog_7_method_32_code 44 = .ok (.invokevirtual 235, 3) := by decide +kernel
theorem d_Mo_isOf_47 : decode prog_7_method_32_code 47 = .ok (.goto 19, 3) := by decide +kernel
theorem d_Mo_isOf_50 : decode prog_7_method_32_code 50 = .ok (.aload_n 0, 1) := by decide +kernel
theorem d_Mo_isOf_51 : decode prog_7_method_32_code 51 = .ok (.iload_n 1, 1) := by decide +kernel
theorem d_Mo_isOf_52 : decode prog_7_method_32_code 52 = .ok (.iload_n 3, 1) := by decide +kernel
theorem d_Mo_isOf_53 : decode prog_7_method_32_code 53 = .ok (.iload_n 2, 1) := by decide +kernel
theorem d_Mo_isOf_54 : decode prog_7_method_32_code 54 = .ok (.iconst 2, 1) := by decide +kernel
theorem d_Mo_isOf_55 : decode prog_7_method_32_code 55 = .ok (.if_icmp .ne 7, 3) := by decide +kernel
theorem d_Mo_isOf_58 : decode prog_7_method_32_code 58 = .ok (.iconst 1, 1) := by decide +kernel
theorem d_Mo_isOf_59 : decode prog_7_method_32_code 59 = .ok (.goto 4, 3) := by decide +kernel
theorem d_Mo_isOf_62 : decode prog_7_method_32_code 62 = .ok (.iconst 0, 1) := by decide +kernel
theorem d_Mo_isOf_63 : decode prog_7_method_32_code 63 = .ok (.invokevirtual 238, 3) := by decide +kernel
theorem d_Mo_isOf_66 : decode prog_7_method_32_code 66 = .ok (.ireturn, 1) := by decide +kernel
def f_R_isOf (m_rankOf_n : Nat) (m_rankOf : Nat → Int32) (m_sizes_n : Nat) (m_sizes : Nat → Int32) (m_ranks_n : Nat) (m_ranks : Nat → Int32) (m_elements_n : Nat) (m_elements : Nat → Int32) (k0 : Int32) (kind0 : Int32) (set0 : Int32) : Option (Int32) :=
  ck_if (kind0 = 0) (ck_in set0 m_sizes_n <| ck_in k0 m_ranks_n <| ck_if ((m_sizes set0.toNatClampNeg) = (m_ranks k0.toNatClampNeg)) (ck_b1 (f_R_isFree m_rankOf_n m_rankOf m_sizes_n m_sizes k0 set0) <| fun r_14 => ck_if (r_14 = 0) (some 0) (some 1)) (some 0)) (ck_if (kind0 = 3) (ck_b1 (f_R_isFlat m_rankOf_n m_rankOf m_elements_n m_elements k0 set0) <| fun r_8 => ck_z r_8 <| some r_8) (ck_jn (fun (s0_3 : Int32) => ck_b1 (f_R_isCircuit m_rankOf_n m_rankOf m_sizes_n m_sizes m_ranks_n m_ranks m_elements_n m_elements k0 set0 s0_3) <| fun r_4 => ck_z r_4 <| some r_4) <| fun k_63 => ck_if (kind0 = 2) (k_63 1) (k_63 0)))
set_option maxHeartbeats 4000000 in
set_option maxRecDepth 100000 in
theorem c_R_isOf (l : Launch) (dC : Nat → ClassId) (dI : Nat → Nat → Nat) (cI cJ cB cZ cT cN : ClassId) (sz : Nat) (h_m : Nat) (h_m_one : Nat) (h_m_two : Nat) (h_m_three : Nat) (h_m_four : Nat) (h_m_five : Nat) (h_m_six : Nat) (h_m_seven : Nat) (h_m_eight : Nat) (h_m_work : Nat) (h_m_small : Nat) (h_m_pivots : Nat) (h_m_freeRows : Nat) (h_m_freeColumns : Nat) (h_m_minor : Nat) (h_m_smallMinor : Nat) (h_m_fields : Nat) (h_m_rowCounts : Nat) (h_m_elements : Nat) (h_m_numbers : Nat) (h_m_known : Nat) (h_m_ranks : Nat) (h_m_rankOf : Nat) (h_m_signOf : Nat) (h_m_order : Nat) (h_m_sizes : Nat) (h_m_coefficients : Nat) (h_m_choices : Nat) (h_m_sorted : Nat) (m_rows : Int32) (m_columns : Int32) (m_prime : Int32) (m_rankOf_n : Nat) (m_rankOf : Nat → Int32) (m_sizes_n : Nat) (m_sizes : Nat → Int32) (m_ranks_n : Nat) (m_ranks : Nat → Int32) (m_elements_n : Nat) (m_elements : Nat → Int32) (k0 : Int32) (kind0 : Int32) (set0 : Int32) (r : Int32) (h : f_R_isOf m_rankOf_n m_rankOf m_sizes_n m_sizes m_ranks_n m_ranks m_elements_n m_elements k0 kind0 set0 = some r) : Met l y_Mo_isOf w_Mo_isOf ({ frames := 3, cells := 0, slots := 0, locals := 70 } : Room) (va_Pc [.ref h_m, .int k0, .int kind0, .int set0] (fun U => U.heap.size = sz ∧ va_P (dC, dI) cl_all [(h_m, .inr (6, [.ref h_m_one, .ref h_m_two, .ref h_m_three, .ref h_m_four, .ref h_m_five, .ref h_m_six, .ref h_m_seven, .ref h_m_eight, .ref h_m_work, .ref h_m_small, .int m_rows, .int m_columns, .int m_prime, .ref h_m_pivots, .ref h_m_freeRows, .ref h_m_freeColumns, .ref h_m_minor, .ref h_m_smallMinor, .ref h_m_fields, .ref h_m_rowCounts, .ref h_m_elements, .ref h_m_numbers, .ref h_m_known, .ref h_m_ranks, .ref h_m_rankOf, .ref h_m_signOf, .ref h_m_order, .ref h_m_sizes, .ref h_m_coefficients, .ref h_m_choices, .ref h_m_sorted])), (h_m_rankOf, .inl (cB, m_rankOf_n, .inl m_rankOf)), (h_m_sizes, .inl (cI, m_sizes_n, .inl m_sizes)), (h_m_ranks, .inl (cI, m_ranks_n, .inl m_ranks)), (h_m_elements, .inl (cI, m_elements_n, .inl m_elements))] U.heap ∧ va_K (dC, dI) cl_all [(cI, .int), (cJ, .long), (cB, .byte), (cZ, .boolean), (cT, .object "BasisWalk$Table"), (cN, .object "BasisWalkModel$Num")] U ∧ NW U ∧ va_D (fun _ => True) [(h_m, .inr (6, [.ref h_m_one, .ref h_m_two, .ref h_m_three, .ref h_m_four, .ref h_m_five, .ref h_m_six, .ref h_m_seven, .ref h_m_eight, .ref h_m_work, .ref h_m_small, .int m_rows, .int m_columns, .int m_prime, .ref h_m_pivots, .ref h_m_freeRows, .ref h_m_freeColumns, .ref h_m_minor, .ref h_m_smallMinor, .ref h_m_fields, .ref h_m_rowCounts, .ref h_m_elements, .ref h_m_numbers, .ref h_m_known, .ref h_m_ranks, .ref h_m_rankOf, .ref h_m_signOf, .ref h_m_order, .ref h_m_sizes, .ref h_m_coefficients, .ref h_m_choices, .ref h_m_sorted])), (h_m_rankOf, .inl (cB, m_rankOf_n, .inl m_rankOf)), (h_m_sizes, .inl (cI, m_sizes_n, .inl m_sizes)), (h_m_ranks, .inl (cI, m_ranks_n, .inl m_ranks)), (h_m_elements, .inl (cI, m_elements_n, .inl m_elements))])) (va_Qi (fun (v : Int32) (_ : Unit) => v = r) (fun (u : Unit) (t : State) => va_P (dC, dI) cl_all [(h_m, .inr (6, [.ref h_m_one, .ref h_m_two, .ref h_m_three, .ref h_m_four, .ref h_m_five, .ref h_m_six, .ref h_m_seven, .ref h_m_eight, .ref h_m_work, .ref h_m_small, .int m_rows, .int m_columns, .int m_prime, .ref h_m_pivots, .ref h_m_freeRows, .ref h_m_freeColumns, .ref h_m_minor, .ref h_m_smallMinor, .ref h_m_fields, .ref h_m_rowCounts, .ref h_m_elements, .ref h_m_numbers, .ref h_m_known, .ref h_m_ranks, .ref h_m_rankOf, .ref h_m_signOf, .ref h_m_order, .ref h_m_sizes, .ref h_m_coefficients, .ref h_m_choices, .ref h_m_sorted])), (h_m_rankOf, .inl (cB, m_rankOf_n, .inl m_rankOf)), (h_m_sizes, .inl (cI, m_sizes_n, .inl m_sizes)), (h_m_ranks, .inl (cI, m_ranks_n, .inl m_ranks)), (h_m_elements, .inl (cI, m_elements_n, .inl m_elements))] t.heap ∧ va_K (dC, dI) cl_all [(cI, .int), (cJ, .long), (cB, .byte), (cZ, .boolean), (cT, .object "BasisWalk$Table"), (cN, .object "BasisWalkModel$Num")] t ∧ va_D (va_A [(h_m, .inr (6, [.ref h_m_one, .ref h_m_two, .ref h_m_three, .ref h_m_four, .ref h_m_five, .ref h_m_six, .ref h_m_seven, .ref h_m_eight, .ref h_m_work, .ref h_m_small, .int m_rows, .int m_columns, .int m_prime, .ref h_m_pivots, .ref h_m_freeRows, .ref h_m_freeColumns, .ref h_m_minor, .ref h_m_smallMinor, .ref h_m_fields, .ref h_m_rowCounts, .ref h_m_elements, .ref h_m_numbers, .ref h_m_known, .ref h_m_ranks, .ref h_m_rankOf, .ref h_m_signOf, .ref h_m_order, .ref h_m_sizes, .ref h_m_coefficients, .ref h_m_choices, .ref h_m_sorted])), (h_m_rankOf, .inl (cB, m_rankOf_n, .inl m_rankOf)), (h_m_sizes, .inl (cI, m_sizes_n, .inl m_sizes)), (h_m_ranks, .inl (cI, m_ranks_n, .inl m_ranks)), (h_m_elements, .inl (cI, m_elements_n, .inl m_elements))] sz) [(h_m, .inr (6, [.ref h_m_one, .ref h_m_two, .ref h_m_three, .ref h_m_four, .ref h_m_five, .ref h_m_six, .ref h_m_seven, .ref h_m_eight, .ref h_m_work, .ref h_m_small, .int m_rows, .int m_columns, .int m_prime, .ref h_m_pivots, .ref h_m_freeRows, .ref h_m_freeColumns, .ref h_m_minor, .ref h_m_smallMinor, .ref h_m_fields, .ref h_m_rowCounts, .ref h_m_elements, .ref h_m_numbers, .ref h_m_known, .ref h_m_ranks, .ref h_m_rankOf, .ref h_m_signOf, .ref h_m_order, .ref h_m_sizes, .ref h_m_coefficients, .ref h_m_choices, .ref h_m_sorted])), (h_m_rankOf, .inl (cB, m_rankOf_n, .inl m_rankOf)), (h_m_sizes, .inl (cI, m_sizes_n, .inl m_sizes)), (h_m_ranks, .inl (cI, m_ranks_n, .inl m_ranks)), (h_m_elements, .inl (cI, m_elements_n, .inl m_elements))]) (va_A [(h_m, .inr (6, [.ref h_m_one, .ref h_m_two, .ref h_m_three, .ref h_m_four, .ref h_m_five, .ref h_m_six, .ref h_m_seven, .ref h_m_eight, .ref h_m_work, .ref h_m_small, .int m_rows, .int m_columns, .int m_prime, .ref h_m_pivots, .ref h_m_freeRows, .ref h_m_freeColumns, .ref h_m_minor, .ref h_m_smallMinor, .ref h_m_fields, .ref h_m_rowCounts, .ref h_m_elements, .ref h_m_numbers, .ref h_m_known, .ref h_m_ranks, .ref h_m_rankOf, .ref h_m_signOf, .ref h_m_order, .ref h_m_sizes, .ref h_m_coefficients, .ref h_m_choices, .ref h_m_sorted])), (h_m_rankOf, .inl (cB, m_rankOf_n, .inl m_rankOf)), (h_m_sizes, .inl (cI, m_sizes_n, .inl m_sizes)), (h_m_ranks, .inl (cI, m_ranks_n, .inl m_ranks)), (h_m_elements, .inl (cI, m_elements_n, .inl m_elements))] sz)) 0 0 (va_A [(h_m, .inr (6, [.ref h_m_one, .ref h_m_two, .ref h_m_three, .ref h_m_four, .ref h_m_five, .ref h_m_six, .ref h_m_seven, .ref h_m_eight, .ref h_m_work, .ref h_m_small, .int m_rows, .int m_columns, .int m_prime, .ref h_m_pivots, .ref h_m_freeRows, .ref h_m_freeColumns, .ref h_m_minor, .ref h_m_smallMinor, .ref h_m_fields, .ref h_m_rowCounts, .ref h_m_elements, .ref h_m_numbers, .ref h_m_known, .ref h_m_ranks, .ref h_m_rankOf, .ref h_m_signOf, .ref h_m_order, .ref h_m_sizes, .ref h_m_coefficients, .ref h_m_choices, .ref h_m_sorted])), (h_m_rankOf, .inl (cB, m_rankOf_n, .inl m_rankOf)), (h_m_sizes, .inl (cI, m_sizes_n, .inl m_sizes)), (h_m_ranks, .inl (cI, m_ranks_n, .inl m_ranks)), (h_m_elements, .inl (cI, m_elements_n, .inl m_elements))] sz) := by
  refine Met.ofW (cc := prog_7_method_32_code) (maxL := 4) (ret := (Option.some Jvm.ClassFile.FieldType.boolean)) (by decide) rfl ?_
  intro p e s m args below meth c s₁ B hml hv
  obtain ⟨hAR, hsz, hP, hK, hN, hD0⟩ := hv
  have hx := B.exec
  have hb := B.bytes
  have hr := B.returns
  have hts := atoms_spec (ws := w_Mo_isOf) B.pre
  have hown : s.vm.findClass "BasisWalkModel" = some m.cls := findClass_of_methodNamed B.named
  have hlocks := B.notSynchronized
  clear B
  subst hsz
  have hD := hD0.self (sz := s.heap.size)
  generalize hAe : va_A [(h_m, .inr (6, [.ref h_m_one, .ref h_m_two, .ref h_m_three, .ref h_m_four, .ref h_m_five, .ref h_m_six, .ref h_m_seven, .ref h_m_eight, .ref h_m_work, .ref h_m_small, .int m_rows, .int m_columns, .int m_prime, .ref h_m_pivots, .ref h_m_freeRows, .ref h_m_freeColumns, .ref h_m_minor, .ref h_m_smallMinor, .ref h_m_fields, .ref h_m_rowCounts, .ref h_m_elements, .ref h_m_numbers, .ref h_m_known, .ref h_m_ranks, .ref h_m_rankOf, .ref h_m_signOf, .ref h_m_order, .ref h_m_sizes, .ref h_m_coefficients, .ref h_m_choices, .ref h_m_sorted])), (h_m_rankOf, .inl (cB, m_rankOf_n, .inl m_rankOf)), (h_m_sizes, .inl (cI, m_sizes_n, .inl m_sizes)), (h_m_ranks, .inl (cI, m_ranks_n, .inl m_ranks)), (h_m_elements, .inl (cI, m_elements_n, .inl m_elements))] s.heap.size = A at hD ⊢
  have hA : ∀ q : Nat, s.heap.size ≤ q → A q := fun q h => by rw [← hAe]; exact Or.inr h
  clear hAe hD0
  have hS : va_S A s.heap s.heap [] := va_S.rf
  have hl := lv_entry ([.ref h_m, .int k0, .int kind0, .int set0]) (n := 4) (Nat.le_of_ble_eq_true rfl)
  subst hAR
  rw [lg_entry_eq]
  generalize (lg_sl ([.ref h_m, .int k0, .int kind0, .int set0]) ++ List.replicate (4 - (lg_sl ([.ref h_m, .int k0, .int kind0, .int set0])).length) Slot.unset).toArray = ls at hl ⊢
  have hl : lv_has ls 4 [(0, .ref h_m), (1, .int k0), (2, .int kind0), (3, .int set0)] := hl
  change W p l e ({ frames := 3, cells := 0, slots := 0, locals := 70 } : Room) s m _ below meth c s.heap [] 0 0 _ _
  generalize hARe : ([.ref h_m, .int k0, .int kind0, .int set0] : List Value).toArray = AR at hts ⊢
  clear hARe
  generalize hQ : MQ below _ AR s 0 0 A = QQ
  have fl0 := hts _ (List.mem_cons_of_mem _ tw_382)
  have iw1 := (fun w hw => List.mem_cons_of_mem _ (in_Mo w hw) : ∀ w ∈ u_ws "BasisWalkModel" T_Mo 31, w ∈ w_Mo_isOf)
  have fl2 := hts _ (List.mem_cons_of_mem _ tw_378)
  obtain ⟨H, hHe⟩ : ∃ H : Heap, H = s.heap := ⟨_, rfl⟩
  rw [← hHe] at hP ⊢
  replace hS : va_S A s.heap H [] := by rw [hHe]; exact va_S.rf
  clear hHe
  unfold f_R_isOf at h
  refine lv_iload_n hx hb d_Mo_isOf_0 rfl (lv_at hl 2 rfl) ?_
  refine lv_if_ne (tgt := 36) hx hb d_Mo_isOf_1 (by decide) (fun c_1 => ?_) (fun c_1 => ?_)
  · replace h := ck_if_f h c_1
    refine lv_iload_n hx hb d_Mo_isOf_36 rfl (lv_at hl 2 rfl) ?_
    refine lv_iconst (v := 3) hx hb d_Mo_isOf_37 (by decide) ?_
    refine lv_icmp_ne (tgt := 50) hx hb d_Mo_isOf_38 (by decide) (fun c_2 => ?_) (fun c_2 => ?_)
    · replace h := ck_if_f h c_2
      refine lv_aload_n hx hb d_Mo_isOf_50 rfl (lv_at hl 0 rfl) ?_
      refine lv_iload_n hx hb d_Mo_isOf_51 rfl (lv_at hl 1 rfl) ?_
      refine lv_iload_n hx hb d_Mo_isOf_52 rfl (lv_at hl 3 rfl) ?_
      refine lv_iload_n hx hb d_Mo_isOf_53 rfl (lv_at hl 2 rfl) ?_
      refine lv_iconst (v := 2) hx hb d_Mo_isOf_54 (by decide) ?_
      refine ck_jn_W h (fun k' => ∀ (s0_3 : Int32), k' s0_3 = some r → ∀ (H : Heap) (locs : List Loc), va_P (dC, dI) cl_all [(h_m, .inr (6, [.ref h_m_one, .ref h_m_two, .ref h_m_three, .ref h_m_four, .ref h_m_five, .ref h_m_six, .ref h_m_seven, .ref h_m_eight, .ref h_m_work, .ref h_m_small, .int m_rows, .int m_columns, .int m_prime, .ref h_m_pivots, .ref h_m_freeRows, .ref h_m_freeColumns, .ref h_m_minor, .ref h_m_smallMinor, .ref h_m_fields, .ref h_m_rowCounts, .ref h_m_elements, .ref h_m_numbers, .ref h_m_known, .ref h_m_ranks, .ref h_m_rankOf, .ref h_m_signOf, .ref h_m_order, .ref h_m_sizes, .ref h_m_coefficients, .ref h_m_choices, .ref h_m_sorted])), (h_m_rankOf, .inl (cB, m_rankOf_n, .inl m_rankOf)), (h_m_sizes, .inl (cI, m_sizes_n, .inl m_sizes)), (h_m_ranks, .inl (cI, m_ranks_n, .inl m_ranks)), (h_m_elements, .inl (cI, m_elements_n, .inl m_elements))] H → va_D A [(h_m, .inr (6, [.ref h_m_one, .ref h_m_two, .ref h_m_three, .ref h_m_four, .ref h_m_five, .ref h_m_six, .ref h_m_seven, .ref h_m_eight, .ref h_m_work, .ref h_m_small, .int m_rows, .int m_columns, .int m_prime, .ref h_m_pivots, .ref h_m_freeRows, .ref h_m_freeColumns, .ref h_m_minor, .ref h_m_smallMinor, .ref h_m_fields, .ref h_m_rowCounts, .ref h_m_elements, .ref h_m_numbers, .ref h_m_known, .ref h_m_ranks, .ref h_m_rankOf, .ref h_m_signOf, .ref h_m_order, .ref h_m_sizes, .ref h_m_coefficients, .ref h_m_choices, .ref h_m_sorted])), (h_m_rankOf, .inl (cB, m_rankOf_n, .inl m_rankOf)), (h_m_sizes, .inl (cI, m_sizes_n, .inl m_sizes)), (h_m_ranks, .inl (cI, m_ranks_n, .inl m_ranks)), (h_m_elements, .inl (cI, m_elements_n, .inl m_elements))] → va_S A s.heap H locs → ∀ ls : Array Slot, lv_has ls 4 [] → W p l e ({ frames := 3, cells := 0, slots := 0, locals := 70 } : Room) s m AR below meth c H locs 0 0 QQ (F0 m 63 ls [.int s0_3, .int set0, .int k0, .ref h_m])) ?_ ?_
      · intro s0_3 h H locs hP hD hS ls hl
        obtain ⟨r_4, hc_5, h⟩ := ck_b1_s h
        have hPc := hP.sub (ws' := [(h_m, .inr (6, [.ref h_m_one, .ref h_m_two, .ref h_m_three, .ref h_m_four, .ref h_m_five, .ref h_m_six, .ref h_m_seven, .ref h_m_eight, .ref h_m_work, .ref h_m_small, .int m_rows, .int m_columns, .int m_prime, .ref h_m_pivots, .ref h_m_freeRows, .ref h_m_freeColumns, .ref h_m_minor, .ref h_m_smallMinor, .ref h_m_fields, .ref h_m_rowCounts, .ref h_m_elements, .ref h_m_numbers, .ref h_m_known, .ref h_m_ranks, .ref h_m_rankOf, .ref h_m_signOf, .ref h_m_order, .ref h_m_sizes, .ref h_m_coefficients, .ref h_m_choices, .ref h_m_sorted])), (h_m_rankOf, .inl (cB, m_rankOf_n, .inl m_rankOf)), (h_m_sizes, .inl (cI, m_sizes_n, .inl m_sizes)), (h_m_ranks, .inl (cI, m_ranks_n, .inl m_ranks)), (h_m_elements, .inl (cI, m_elements_n, .inl m_elements))]) [0, 1, 2, 3, 4] rfl
        have hDc := hD.sub (ws' := [(h_m, .inr (6, [.ref h_m_one, .ref h_m_two, .ref h_m_three, .ref h_m_four, .ref h_m_five, .ref h_m_six, .ref h_m_seven, .ref h_m_eight, .ref h_m_work, .ref h_m_small, .int m_rows, .int m_columns, .int m_prime, .ref h_m_pivots, .ref h_m_freeRows, .ref h_m_freeColumns, .ref h_m_minor, .ref h_m_smallMinor, .ref h_m_fields, .ref h_m_rowCounts, .ref h_m_elements, .ref h_m_numbers, .ref h_m_known, .ref h_m_ranks, .ref h_m_rankOf, .ref h_m_signOf, .ref h_m_order, .ref h_m_sizes, .ref h_m_coefficients, .ref h_m_choices, .ref h_m_sorted])), (h_m_rankOf, .inl (cB, m_rankOf_n, .inl m_rankOf)), (h_m_sizes, .inl (cI, m_sizes_n, .inl m_sizes)), (h_m_ranks, .inl (cI, m_ranks_n, .inl m_ranks)), (h_m_elements, .inl (cI, m_elements_n, .inl m_elements))]) [0, 1, 2, 3, 4] (by decide) rfl
        have hFc := va_free (wc := [(h_m, .inr (6, [.ref h_m_one, .ref h_m_two, .ref h_m_three, .ref h_m_four, .ref h_m_five, .ref h_m_six, .ref h_m_seven, .ref h_m_eight, .ref h_m_work, .ref h_m_small, .int m_rows, .int m_columns, .int m_prime, .ref h_m_pivots, .ref h_m_freeRows, .ref h_m_freeColumns, .ref h_m_minor, .ref h_m_smallMinor, .ref h_m_fields, .ref h_m_rowCounts, .ref h_m_elements, .ref h_m_numbers, .ref h_m_known, .ref h_m_ranks, .ref h_m_rankOf, .ref h_m_signOf, .ref h_m_order, .ref h_m_sizes, .ref h_m_coefficients, .ref h_m_choices, .ref h_m_sorted])), (h_m_rankOf, .inl (cB, m_rankOf_n, .inl m_rankOf)), (h_m_sizes, .inl (cI, m_sizes_n, .inl m_sizes)), (h_m_ranks, .inl (cI, m_ranks_n, .inl m_ranks)), (h_m_elements, .inl (cI, m_elements_n, .inl m_elements))]) hD hS hA [0, 1, 2, 3, 4] rfl
        refine va_calli (va_runV (As := [.int k0, .int set0, .int s0_3]) (rest := []) ⟨hx, hb, hml, hown, hts⟩ (c_R_isCircuit l dC dI cI cJ cB cZ cT cN H.size h_m h_m_one h_m_two h_m_three h_m_four h_m_five h_m_six h_m_seven h_m_eight h_m_work h_m_small h_m_pivots h_m_freeRows h_m_freeColumns h_m_minor h_m_smallMinor h_m_fields h_m_rowCounts h_m_elements h_m_numbers h_m_known h_m_ranks h_m_rankOf h_m_signOf h_m_order h_m_sizes h_m_coefficients h_m_choices h_m_sorted m_rows m_columns m_prime m_rankOf_n m_rankOf m_sizes_n m_sizes m_ranks_n m_ranks m_elements_n m_elements k0 set0 s0_3 _ hc_5) (cwV 3 hts (tb_V tw_626 tw_628 tp_40 tw_6 tw_629) rfl rfl rfl (by decide +kernel) ⟨Nat.le_of_ble_eq_true rfl, Nat.le_of_ble_eq_true rfl⟩) ⟨fun a U g mk q => by obtain ⟨q0, q1, qP, qK, qN, qD⟩ := q; exact ⟨q0, q1, qP, va_K.moved (u := U) (U := U.calling g mk a) (Vm.Alike.refl U.vm) qK, qN.same rfl, qD⟩, va_recv hK hPc (ci := 6) (q0 := 0) rfl rfl, fun U hU hW => ⟨rfl, by rw [hU], by rw [hU]; exact hPc, va_K.moved hW.alike hK, hN.warm hW, hDc.weaken (fun _ _ _ _ => trivial)⟩⟩ rfl rfl hl.1 rfl (lv_room (Nat.le_of_ble_eq_true rfl)) d_Mo_isOf_63 ⟨Nat.zero_le _, Nat.zero_le _⟩) hS (fun q _ h => hFc q h) hFc (fun rr u t H1 locs ht hvm hw hB hz1 hk1 hS => ?_)
        replace hw := hw.symm
        subst hw
        obtain ⟨hP1, -, hD1⟩ := hB
        rw [ht] at hP1
        obtain ⟨hP, hD⟩ := va_join (wr := []) (w1 := [(h_m, .inr (6, [.ref h_m_one, .ref h_m_two, .ref h_m_three, .ref h_m_four, .ref h_m_five, .ref h_m_six, .ref h_m_seven, .ref h_m_eight, .ref h_m_work, .ref h_m_small, .int m_rows, .int m_columns, .int m_prime, .ref h_m_pivots, .ref h_m_freeRows, .ref h_m_freeColumns, .ref h_m_minor, .ref h_m_smallMinor, .ref h_m_fields, .ref h_m_rowCounts, .ref h_m_elements, .ref h_m_numbers, .ref h_m_known, .ref h_m_ranks, .ref h_m_rankOf, .ref h_m_signOf, .ref h_m_order, .ref h_m_sizes, .ref h_m_coefficients, .ref h_m_choices, .ref h_m_sorted])), (h_m_rankOf, .inl (cB, m_rankOf_n, .inl m_rankOf)), (h_m_sizes, .inl (cI, m_sizes_n, .inl m_sizes)), (h_m_ranks, .inl (cI, m_ranks_n, .inl m_ranks)), (h_m_elements, .inl (cI, m_elements_n, .inl m_elements))]) hP hD [0, 1, 2, 3, 4] [] rfl rfl (by decide) (by decide) hk1 hFc hP1 hD1
        generalize H1 = H at hP hS ⊢
        have hP : va_P (dC, dI) cl_all [(h_m, .inr (6, [.ref h_m_one, .ref h_m_two, .ref h_m_three, .ref h_m_four, .ref h_m_five, .ref h_m_six, .ref h_m_seven, .ref h_m_eight, .ref h_m_work, .ref h_m_small, .int m_rows, .int m_columns, .int m_prime, .ref h_m_pivots, .ref h_m_freeRows, .ref h_m_freeColumns, .ref h_m_minor, .ref h_m_smallMinor, .ref h_m_fields, .ref h_m_rowCounts, .ref h_m_elements, .ref h_m_numbers, .ref h_m_known, .ref h_m_ranks, .ref h_m_rankOf, .ref h_m_signOf, .ref h_m_order, .ref h_m_sizes, .ref h_m_coefficients, .ref h_m_choices, .ref h_m_sorted])), (h_m_rankOf, .inl (cB, m_rankOf_n, .inl m_rankOf)), (h_m_sizes, .inl (cI, m_sizes_n, .inl m_sizes)), (h_m_ranks, .inl (cI, m_ranks_n, .inl m_ranks)), (h_m_elements, .inl (cI, m_elements_n, .inl m_elements))] H := hP.sub [0, 1, 2, 3, 4] rfl
        have hD : va_D A [(h_m, .inr (6, [.ref h_m_one, .ref h_m_two, .ref h_m_three, .ref h_m_four, .ref h_m_five, .ref h_m_six, .ref h_m_seven, .ref h_m_eight, .ref h_m_work, .ref h_m_small, .int m_rows, .int m_columns, .int m_prime, .ref h_m_pivots, .ref h_m_freeRows, .ref h_m_freeColumns, .ref h_m_minor, .ref h_m_smallMinor, .ref h_m_fields, .ref h_m_rowCounts, .ref h_m_elements, .ref h_m_numbers, .ref h_m_known, .ref h_m_ranks, .ref h_m_rankOf, .ref h_m_signOf, .ref h_m_order, .ref h_m_sizes, .ref h_m_coefficients, .ref h_m_choices, .ref h_m_sorted])), (h_m_rankOf, .inl (cB, m_rankOf_n, .inl m_rankOf)), (h_m_sizes, .inl (cI, m_sizes_n, .inl m_sizes)), (h_m_ranks, .inl (cI, m_ranks_n, .inl m_ranks)), (h_m_elements, .inl (cI, m_elements_n, .inl m_elements))] := hD.sub [0, 1, 2, 3, 4] (by decide) rfl
        obtain ⟨g_6, h⟩ := ck_z_s h
        obtain rfl := Option.some.inj h
        subst hQ
        exact W.zret (ty := .boolean) (v := r_4) hx hb hr g_6.1 (fun t ht hW => ⟨⟨r_4, (), rfl, rfl, by rw [ht]; exact hP, va_K.moved hW.alike hK, hD⟩, hS.F ht⟩) hS.2.2 d_Mo_isOf_66
      · intro k_63 J_63 h
        refine lv_icmp_ne (tgt := 62) hx hb d_Mo_isOf_55 (by decide) (fun c_7 => ?_) (fun c_7 => ?_)
        · replace h := ck_if_f h c_7
          refine lv_iconst (v := 0) hx hb d_Mo_isOf_62 (by decide) ?_
          exact J_63 _ h _ _ hP hD hS _ (lv_sub hl [] rfl)
        · replace h := ck_if_t h c_7
          refine lv_iconst (v := 1) hx hb d_Mo_isOf_58 (by decide) ?_
          refine lv_goto (tgt := 63) hx hb d_Mo_isOf_59 (by decide) ?_
          exact J_63 _ h _ _ hP hD hS _ (lv_sub hl [] rfl)
    · replace h := ck_if_t h c_2
      refine lv_aload_n hx hb d_Mo_isOf_41 rfl (lv_at hl 0 rfl) ?_
      refine lv_iload_n hx hb d_Mo_isOf_42 rfl (lv_at hl 1 rfl) ?_
      refine lv_iload_n hx hb d_Mo_isOf_43 rfl (lv_at hl 3 rfl) ?_
      obtain ⟨r_8, hc_9, h⟩ := ck_b1_s h
      have hPc := hP.sub (ws' := [(h_m, .inr (6, [.ref h_m_one, .ref h_m_two, .ref h_m_three, .ref h_m_four, .ref h_m_five, .ref h_m_six, .ref h_m_seven, .ref h_m_eight, .ref h_m_work, .ref h_m_small, .int m_rows, .int m_columns, .int m_prime, .ref h_m_pivots, .ref h_m_freeRows, .ref h_m_freeColumns, .ref h_m_minor, .ref h_m_smallMinor, .ref h_m_fields, .ref h_m_rowCounts, .ref h_m_elements, .ref h_m_numbers, .ref h_m_known, .ref h_m_ranks, .ref h_m_rankOf, .ref h_m_signOf, .ref h_m_order, .ref h_m_sizes, .ref h_m_coefficients, .ref h_m_choices, .ref h_m_sorted])), (h_m_rankOf, .inl (cB, m_rankOf_n, .inl m_rankOf)), (h_m_elements, .inl (cI, m_elements_n, .inl m_elements))]) [0, 1, 4] rfl
      have hDc := hD.sub (ws' := [(h_m, .inr (6, [.ref h_m_one, .ref h_m_two, .ref h_m_three, .ref h_m_four, .ref h_m_five, .ref h_m_six, .ref h_m_seven, .ref h_m_eight, .ref h_m_work, .ref h_m_small, .int m_rows, .int m_columns, .int m_prime, .ref h_m_pivots, .ref h_m_freeRows, .ref h_m_freeColumns, .ref h_m_minor, .ref h_m_smallMinor, .ref h_m_fields, .ref h_m_rowCounts, .ref h_m_elements, .ref h_m_numbers, .ref h_m_known, .ref h_m_ranks, .ref h_m_rankOf, .ref h_m_signOf, .ref h_m_order, .ref h_m_sizes, .ref h_m_coefficients, .ref h_m_choices, .ref h_m_sorted])), (h_m_rankOf, .inl (cB, m_rankOf_n, .inl m_rankOf)), (h_m_elements, .inl (cI, m_elements_n, .inl m_elements))]) [0, 1, 4] (by decide) rfl
      have hFc := va_free (wc := [(h_m, .inr (6, [.ref h_m_one, .ref h_m_two, .ref h_m_three, .ref h_m_four, .ref h_m_five, .ref h_m_six, .ref h_m_seven, .ref h_m_eight, .ref h_m_work, .ref h_m_small, .int m_rows, .int m_columns, .int m_prime, .ref h_m_pivots, .ref h_m_freeRows, .ref h_m_freeColumns, .ref h_m_minor, .ref h_m_smallMinor, .ref h_m_fields, .ref h_m_rowCounts, .ref h_m_elements, .ref h_m_numbers, .ref h_m_known, .ref h_m_ranks, .ref h_m_rankOf, .ref h_m_signOf, .ref h_m_order, .ref h_m_sizes, .ref h_m_coefficients, .ref h_m_choices, .ref h_m_sorted])), (h_m_rankOf, .inl (cB, m_rankOf_n, .inl m_rankOf)), (h_m_elements, .inl (cI, m_elements_n, .inl m_elements))]) hD hS hA [0, 1, 4] rfl
      refine va_calli (va_runV (As := [.int k0, .int set0]) (rest := []) ⟨hx, hb, hml, hown, hts⟩ (c_R_isFlat l dC dI cI cJ cB cZ cT cN H.size h_m h_m_one h_m_two h_m_three h_m_four h_m_five h_m_six h_m_seven h_m_eight h_m_work h_m_small h_m_pivots h_m_freeRows h_m_freeColumns h_m_minor h_m_smallMinor h_m_fields h_m_rowCounts h_m_elements h_m_numbers h_m_known h_m_ranks h_m_rankOf h_m_signOf h_m_order h_m_sizes h_m_coefficients h_m_choices h_m_sorted m_rows m_columns m_prime m_rankOf_n m_rankOf m_elements_n m_elements k0 set0 _ hc_9) (cwV 2 hts (tb_V tw_622 tw_624 tp_39 tw_6 tw_625) rfl rfl rfl (by decide +kernel) ⟨Nat.le_of_ble_eq_true rfl, Nat.le_of_ble_eq_true rfl⟩) ⟨fun a U g mk q => by obtain ⟨q0, q1, qP, qK, qN, qD⟩ := q; exact ⟨q0, q1, qP, va_K.moved (u := U) (U := U.calling g mk a) (Vm.Alike.refl U.vm) qK, qN.same rfl, qD⟩, va_recv hK hPc (ci := 6) (q0 := 0) rfl rfl, fun U hU hW => ⟨rfl, by rw [hU], by rw [hU]; exact hPc, va_K.moved hW.alike hK, hN.warm hW, hDc.weaken (fun _ _ _ _ => trivial)⟩⟩ rfl rfl hl.1 rfl (lv_room (Nat.le_of_ble_eq_true rfl)) d_Mo_isOf_44 ⟨Nat.zero_le _, Nat.zero_le _⟩) hS (fun q _ h => hFc q h) hFc (fun rr u t H1 locs ht hvm hw hB hz1 hk1 hS => ?_)
      replace hw := hw.symm
      subst hw
      obtain ⟨hP1, -, hD1⟩ := hB
      rw [ht] at hP1
      obtain ⟨hP, hD⟩ := va_join (wr := [(h_m_sizes, .inl (cI, m_sizes_n, .inl m_sizes)), (h_m_ranks, .inl (cI, m_ranks_n, .inl m_ranks))]) (w1 := [(h_m, .inr (6, [.ref h_m_one, .ref h_m_two, .ref h_m_three, .ref h_m_four, .ref h_m_five, .ref h_m_six, .ref h_m_seven, .ref h_m_eight, .ref h_m_work, .ref h_m_small, .int m_rows, .int m_columns, .int m_prime, .ref h_m_pivots, .ref h_m_freeRows, .ref h_m_freeColumns, .ref h_m_minor, .ref h_m_smallMinor, .ref h_m_fields, .ref h_m_rowCounts, .ref h_m_elements, .ref h_m_numbers, .ref h_m_known, .ref h_m_ranks, .ref h_m_rankOf, .ref h_m_signOf, .ref h_m_order, .ref h_m_sizes, .ref h_m_coefficients, .ref h_m_choices, .ref h_m_sorted])), (h_m_rankOf, .inl (cB, m_rankOf_n, .inl m_rankOf)), (h_m_elements, .inl (cI, m_elements_n, .inl m_elements))]) hP hD [0, 1, 4] [2, 3] rfl rfl (by decide) (by decide) hk1 hFc hP1 hD1
      generalize H1 = H at hP hS ⊢
      have hP : va_P (dC, dI) cl_all [(h_m, .inr (6, [.ref h_m_one, .ref h_m_two, .ref h_m_three, .ref h_m_four, .ref h_m_five, .ref h_m_six, .ref h_m_seven, .ref h_m_eight, .ref h_m_work, .ref h_m_small, .int m_rows, .int m_columns, .int m_prime, .ref h_m_pivots, .ref h_m_freeRows, .ref h_m_freeColumns, .ref h_m_minor, .ref h_m_smallMinor, .ref h_m_fields, .ref h_m_rowCounts, .ref h_m_elements, .ref h_m_numbers, .ref h_m_known, .ref h_m_ranks, .ref h_m_rankOf, .ref h_m_signOf, .ref h_m_order, .ref h_m_sizes, .ref h_m_coefficients, .ref h_m_choices, .ref h_m_sorted])), (h_m_rankOf, .inl (cB, m_rankOf_n, .inl m_rankOf)), (h_m_sizes, .inl (cI, m_sizes_n, .inl m_sizes)), (h_m_ranks, .inl (cI, m_ranks_n, .inl m_ranks)), (h_m_elements, .inl (cI, m_elements_n, .inl m_elements))] H := hP.sub [2, 3, 0, 1, 4] rfl
      have hD : va_D A [(h_m, .inr (6, [.ref h_m_one, .ref h_m_two, .ref h_m_three, .ref h_m_four, .ref h_m_five, .ref h_m_six, .ref h_m_seven, .ref h_m_eight, .ref h_m_work, .ref h_m_small, .int m_rows, .int m_columns, .int m_prime, .ref h_m_pivots, .ref h_m_freeRows, .ref h_m_freeColumns, .ref h_m_minor, .ref h_m_smallMinor, .ref h_m_fields, .ref h_m_rowCounts, .ref h_m_elements, .ref h_m_numbers, .ref h_m_known, .ref h_m_ranks, .ref h_m_rankOf, .ref h_m_signOf, .ref h_m_order, .ref h_m_sizes, .ref h_m_coefficients, .ref h_m_choices, .ref h_m_sorted])), (h_m_rankOf, .inl (cB, m_rankOf_n, .inl m_rankOf)), (h_m_sizes, .inl (cI, m_sizes_n, .inl m_sizes)), (h_m_ranks, .inl (cI, m_ranks_n, .inl m_ranks)), (h_m_elements, .inl (cI, m_elements_n, .inl m_elements))] := hD.sub [2, 3, 0, 1, 4] (by decide) rfl
      refine lv_goto (tgt := 66) hx hb d_Mo_isOf_47 (by decide) ?_
      obtain ⟨g_10, h⟩ := ck_z_s h
      obtain rfl := Option.some.inj h
      subst hQ
      exact W.zret (ty := .boolean) (v := r_8) hx hb hr g_10.1 (fun t ht hW => ⟨⟨r_8, (), rfl, rfl, by rw [ht]; exact hP, va_K.moved hW.alike hK, hD⟩, hS.F ht⟩) hS.2.2 d_Mo_isOf_66
  · replace h := ck_if_t h c_1
    refine lv_aload_n hx hb d_Mo_isOf_4 rfl (lv_at hl 0 rfl) ?_
    refine va_get (D := (dC, dI)) (ci := 6) (v := .ref h_m_sizes) (C := "BasisWalkModel") (T := T_Mo) (N := 31) hx hb hts iw1 hown hK hP 0 rfl rfl 27 (by decide) fl0 (fun _ h9 => h9) rfl d_Mo_isOf_5 ?_
    refine lv_iload_n hx hb d_Mo_isOf_8 rfl (lv_at hl 3 rfl) ?_
    obtain ⟨g_11, h⟩ := ck_in_s h
    refine va_iald hx hb hK hP 2 0 rfl rfl g_11 d_Mo_isOf_9 ?_
    refine lv_aload_n hx hb d_Mo_isOf_10 rfl (lv_at hl 0 rfl) ?_
    refine va_get (D := (dC, dI)) (ci := 6) (v := .ref h_m_ranks) (C := "BasisWalkModel") (T := T_Mo) (N := 31) hx hb hts iw1 hown hK hP 0 rfl rfl 23 (by decide) fl2 (fun _ h9 => h9) rfl d_Mo_isOf_11 ?_
    refine lv_iload_n hx hb d_Mo_isOf_14 rfl (lv_at hl 1 rfl) ?_
    obtain ⟨g_12, h⟩ := ck_in_s h
    refine va_iald hx hb hK hP 3 0 rfl rfl g_12 d_Mo_isOf_15 ?_
    refine lv_icmp_ne (tgt := 32) hx hb d_Mo_isOf_16 (by decide) (fun c_13 => ?_) (fun c_13 => ?_)
    · replace h := ck_if_f h c_13
      refine lv_iconst (v := 0) hx hb d_Mo_isOf_32 (by decide) ?_
      refine lv_goto (tgt := 66) hx hb d_Mo_isOf_33 (by decide) ?_
      obtain rfl := Option.some.inj h
      subst hQ
      exact W.zret (ty := .boolean) (v := 0) hx hb hr rfl (fun t ht hW => ⟨⟨0, (), rfl, rfl, by rw [ht]; exact hP, va_K.moved hW.alike hK, hD⟩, hS.F ht⟩) hS.2.2 d_Mo_isOf_66
    · replace h := ck_if_t h c_13
      refine lv_aload_n hx hb d_Mo_isOf_19 rfl (lv_at hl 0 rfl) ?_
      refine lv_iload_n hx hb d_Mo_isOf_20 rfl (lv_at hl 1 rfl) ?_
      refine lv_iload_n hx hb d_Mo_isOf_21 rfl (lv_at hl 3 rfl) ?_
      obtain ⟨r_14, hc_15, h⟩ := ck_b1_s h
      have hPc := hP.sub (ws' := [(h_m, .inr (6, [.ref h_m_one, .ref h_m_two, .ref h_m_three, .ref h_m_four, .ref h_m_five, .ref h_m_six, .ref h_m_seven, .ref h_m_eight, .ref h_m_work, .ref h_m_small, .int m_rows, .int m_columns, .int m_prime, .ref h_m_pivots, .ref h_m_freeRows, .ref h_m_freeColumns, .ref h_m_minor, .ref h_m_smallMinor, .ref h_m_fields, .ref h_m_rowCounts, .ref h_m_elements, .ref h_m_numbers, .ref h_m_known, .ref h_m_ranks, .ref h_m_rankOf, .ref h_m_signOf, .ref h_m_order, .ref h_m_sizes, .ref h_m_coefficients, .ref h_m_choices, .ref h_m_sorted])), (h_m_rankOf, .inl (cB, m_rankOf_n, .inl m_rankOf)), (h_m_sizes, .inl (cI, m_sizes_n, .inl m_sizes))]) [0, 1, 2] rfl
      have hDc := hD.sub (ws' := [(h_m, .inr (6, [.ref h_m_one, .ref h_m_two, .ref h_m_three, .ref h_m_four, .ref h_m_five, .ref h_m_six, .ref h_m_seven, .ref h_m_eight, .ref h_m_work, .ref h_m_small, .int m_rows, .int m_columns, .int m_prime, .ref h_m_pivots, .ref h_m_freeRows, .ref h_m_freeColumns, .ref h_m_minor, .ref h_m_smallMinor, .ref h_m_fields, .ref h_m_rowCounts, .ref h_m_elements, .ref h_m_numbers, .ref h_m_known, .ref h_m_ranks, .ref h_m_rankOf, .ref h_m_signOf, .ref h_m_order, .ref h_m_sizes, .ref h_m_coefficients, .ref h_m_choices, .ref h_m_sorted])), (h_m_rankOf, .inl (cB, m_rankOf_n, .inl m_rankOf)), (h_m_sizes, .inl (cI, m_sizes_n, .inl m_sizes))]) [0, 1, 2] (by decide) rfl
      have hFc := va_free (wc := [(h_m, .inr (6, [.ref h_m_one, .ref h_m_two, .ref h_m_three, .ref h_m_four, .ref h_m_five, .ref h_m_six, .ref h_m_seven, .ref h_m_eight, .ref h_m_work, .ref h_m_small, .int m_rows, .int m_columns, .int m_prime, .ref h_m_pivots, .ref h_m_freeRows, .ref h_m_freeColumns, .ref h_m_minor, .ref h_m_smallMinor, .ref h_m_fields, .ref h_m_rowCounts, .ref h_m_elements, .ref h_m_numbers, .ref h_m_known, .ref h_m_ranks, .ref h_m_rankOf, .ref h_m_signOf, .ref h_m_order, .ref h_m_sizes, .ref h_m_coefficients, .ref h_m_choices, .ref h_m_sorted])), (h_m_rankOf, .inl (cB, m_rankOf_n, .inl m_rankOf)), (h_m_sizes, .inl (cI, m_sizes_n, .inl m_sizes))]) hD hS hA [0, 1, 2] rfl
      refine va_calli (va_runV (As := [.int k0, .int set0]) (rest := []) ⟨hx, hb, hml, hown, hts⟩ (c_R_isFree l dC dI cI cJ cB cZ cT cN H.size h_m h_m_one h_m_two h_m_three h_m_four h_m_five h_m_six h_m_seven h_m_eight h_m_work h_m_small h_m_pivots h_m_freeRows h_m_freeColumns h_m_minor h_m_smallMinor h_m_fields h_m_rowCounts h_m_elements h_m_numbers h_m_known h_m_ranks h_m_rankOf h_m_signOf h_m_order h_m_sizes h_m_coefficients h_m_choices h_m_sorted m_rows m_columns m_prime m_rankOf_n m_rankOf m_sizes_n m_sizes k0 set0 _ hc_15) (cwV 2 hts (tb_V tw_618 tw_620 tp_38 tw_6 tw_621) rfl rfl rfl (by decide +kernel) ⟨Nat.le_of_ble_eq_true rfl, Nat.le_of_ble_eq_true rfl⟩) ⟨fun a U g mk q => by obtain ⟨q0, q1, qP, qK, qN, qD⟩ := q; exact ⟨q0, q1, qP, va_K.moved (u := U) (U := U.calling g mk a) (Vm.Alike.refl U.vm) qK, qN.same rfl, qD⟩, va_recv hK hPc (ci := 6) (q0 := 0) rfl rfl, fun U hU hW => ⟨rfl, by rw [hU], by rw [hU]; exact hPc, va_K.moved hW.alike hK, hN.warm hW, hDc.weaken (fun _ _ _ _ => trivial)⟩⟩ rfl rfl hl.1 rfl (lv_room (Nat.le_of_ble_eq_true rfl)) d_Mo_isOf_22 ⟨Nat.zero_le _, Nat.zero_le _⟩) hS (fun q _ h => hFc q h) hFc (fun rr u t H1 locs ht hvm hw hB hz1 hk1 hS => ?_)
      replace hw := hw.symm
      subst hw
      obtain ⟨hP1, -, hD1⟩ := hB
      rw [ht] at hP1
      obtain ⟨hP, hD⟩ := va_join (wr := [(h_m_ranks, .inl (cI, m_ranks_n, .inl m_ranks)), (h_m_elements, .inl (cI, m_elements_n, .inl m_elements))]) (w1 := [(h_m, .inr (6, [.ref h_m_one, .ref h_m_two, .ref h_m_three, .ref h_m_four, .ref h_m_five, .ref h_m_six, .ref h_m_seven, .ref h_m_eight, .ref h_m_work, .ref h_m_small, .int m_rows, .int m_columns, .int m_prime, .ref h_m_pivots, .ref h_m_freeRows, .ref h_m_freeColumns, .ref h_m_minor, .ref h_m_smallMinor, .ref h_m_fields, .ref h_m_rowCounts, .ref h_m_elements, .ref h_m_numbers, .ref h_m_known, .ref h_m_ranks, .ref h_m_rankOf, .ref h_m_signOf, .ref h_m_order, .ref h_m_sizes, .ref h_m_coefficients, .ref h_m_choices, .ref h_m_sorted])), (h_m_rankOf, .inl (cB, m_rankOf_n, .inl m_rankOf)), (h_m_sizes, .inl (cI, m_sizes_n, .inl m_sizes))]) hP hD [0, 1, 2] [3, 4] rfl rfl (by decide) (by decide) hk1 hFc hP1 hD1
      generalize H1 = H at hP hS ⊢
      have hP : va_P (dC, dI) cl_all [(h_m, .inr (6, [.ref h_m_one, .ref h_m_two, .ref h_m_three, .ref h_m_four, .ref h_m_five, .ref h_m_six, .ref h_m_seven, .ref h_m_eight, .ref h_m_work, .ref h_m_small, .int m_rows, .int m_columns, .int m_prime, .ref h_m_pivots, .ref h_m_freeRows, .ref h_m_freeColumns, .ref h_m_minor, .ref h_m_smallMinor, .ref h_m_fields, .ref h_m_rowCounts, .ref h_m_elements, .ref h_m_numbers, .ref h_m_known, .ref h_m_ranks, .ref h_m_rankOf, .ref h_m_signOf, .ref h_m_order, .ref h_m_sizes, .ref h_m_coefficients, .ref h_m_choices, .ref h_m_sorted])), (h_m_rankOf, .inl (cB, m_rankOf_n, .inl m_rankOf)), (h_m_sizes, .inl (cI, m_sizes_n, .inl m_sizes)), (h_m_ranks, .inl (cI, m_ranks_n, .inl m_ranks)), (h_m_elements, .inl (cI, m_elements_n, .inl m_elements))] H := hP.sub [2, 3, 4, 0, 1] rfl
      have hD : va_D A [(h_m, .inr (6, [.ref h_m_one, .ref h_m_two, .ref h_m_three, .ref h_m_four, .ref h_m_five, .ref h_m_six, .ref h_m_seven, .ref h_m_eight, .ref h_m_work, .ref h_m_small, .int m_rows, .int m_columns, .int m_prime, .ref h_m_pivots, .ref h_m_freeRows, .ref h_m_freeColumns, .ref h_m_minor, .ref h_m_smallMinor, .ref h_m_fields, .ref h_m_rowCounts, .ref h_m_elements, .ref h_m_numbers, .ref h_m_known, .ref h_m_ranks, .ref h_m_rankOf, .ref h_m_signOf, .ref h_m_order, .ref h_m_sizes, .ref h_m_coefficients, .ref h_m_choices, .ref h_m_sorted])), (h_m_rankOf, .inl (cB, m_rankOf_n, .inl m_rankOf)), (h_m_sizes, .inl (cI, m_sizes_n, .inl m_sizes)), (h_m_ranks, .inl (cI, m_ranks_n, .inl m_ranks)), (h_m_elements, .inl (cI, m_elements_n, .inl m_elements))] := hD.sub [2, 3, 4, 0, 1] (by decide) rfl
      refine lv_if_eq (tgt := 32) hx hb d_Mo_isOf_25 (by decide) (fun c_16 => ?_) (fun c_16 => ?_)
      · replace h := ck_if_t h c_16
        refine lv_iconst (v := 0) hx hb d_Mo_isOf_32 (by decide) ?_
        refine lv_goto (tgt := 66) hx hb d_Mo_isOf_33 (by decide) ?_
        obtain rfl := Option.some.inj h
        subst hQ
        exact W.zret (ty := .boolean) (v := 0) hx hb hr rfl (fun t ht hW => ⟨⟨0, (), rfl, rfl, by rw [ht]; exact hP, va_K.moved hW.alike hK, hD⟩, hS.F ht⟩) hS.2.2 d_Mo_isOf_66
      · replace h := ck_if_f h c_16
        refine lv_iconst (v := 1) hx hb d_Mo_isOf_28 (by decide) ?_
        refine lv_goto (tgt := 66) hx hb d_Mo_isOf_29 (by decide) ?_
        obtain rfl := Option.some.inj h
        subst hQ
        exact W.zret (ty := .boolean) (v := 1) hx hb hr rfl (fun t ht hW => ⟨⟨1, (), rfl, rfl, by rw [ht]; exact hP, va_K.moved hW.alike hK, hD⟩, hS.F ht⟩) hS.2.2 d_Mo_isOf_66
theorem d_Mo_howMany_0 : decode prog_7_method_33_code 0 = .ok (.iconst 0, 1) := by decide +kernel
theorem d_Mo_howMany_1 : decode prog_7_method_33_code 1 = .ok (.istore_n 3, 1) := by decide +kernel
theorem d_Mo_howMany_2 : decode prog_7_method_33_code 2 = .ok (.iconst 0, 1) := by decide +kernel
theorem d_Mo_howMany_3 : decode prog_7_method_33_code 3 = .ok (.istore 4, 2) := by decide +kernel
theorem d_Mo_howMany_5 : decode prog_7_method_33_code 5 = .ok (.iload 4, 2) := by decide +kernel
theorem d_Mo_howMany_7 : decode prog_7_method_33_code 7 = .ok (.aload_n 0, 1) := by decide +kernel
theorem d_Mo_howMany_8 : decode prog_7_method_33_code 8 = .ok (.iload_n 1, 1) := by decide +kernel
theorem d_Mo_howMany_9 : decode prog_7_method_33_code 9 = .ok (.invokevirtual 226, 3) := by decide +kernel
theorem d_Mo_howMany_12 : decode prog_7_method_33_code 12 = .ok (.if_icmp .gt 28, 3) := by decide +kernel
theorem d_Mo_howMany_15 : decode prog_7_method_33_code 15 = .ok (.aload_n 0, 1) := by decide +kernel
theorem d_Mo_howMany_16 : decode prog_7_method_33_code 16 = .ok (.iload_n 1, 1) := by decide +kernel
theorem d_Mo_howMany_17 : decode prog_7_method_33_code 17 = .ok (.iload_n 2, 1) := by decide +kernel
theorem d_Mo_howMany_18 : decode prog_7_method_33_code 18 = .ok (.iload 4, 2) := by decide +kernel
theorem d_Mo_howMany_20 : decode prog_7_method_33_code 20 = .ok (.invokevirtual 242, 3) := by decide +kernel
theorem d_Mo_howMany_23 : decode prog_7_method_33_code 23 = .ok (.ifCond .eq 9, 3) := by decide +kernel
theorem d_Mo_howMany_26 : decode prog_7_method_33_code 26 = .ok (.iload_n 3, 1) := by decide +kernel
theorem d_Mo_howMany_27 : decode prog_7_method_33_code 27 = .ok (.iconst 1, 1) := by decide +kernel
theorem d_Mo_howMany_28 : decode prog_7_method_33_code 28 = .ok (.iadd, 1) := by decide +kernel
theorem d_Mo_howMany_29 : decode prog_7_method_33_code 29 = .ok (.goto 4, 3) := by decide +kernel
theorem d_Mo_howMany_32 : decode prog_7_method_33_code 32 = .ok (.iload_n 3, 1) := by decide +kernel
theorem d_Mo_howMany_33 : decode prog_7_method_33_code 33 = .ok (.istore_n 3, 1) := by decide +kernel
theorem d_Mo_howMany_34 : decode prog_7_method_33_code 34 = .ok (.iinc 4 1, 3) := by decide +kernel
theorem d_Mo_howMany_37 : decode prog_7_method_33_code 37 = .ok (.goto (-32), 3) := by decide +kernel
theorem d_Mo_howMany_40 : decode prog_7_method_33_code 40 = .ok (.iload_n 3, 1) := by decide +kernel
theorem d_Mo_howMany_41 : decode prog_7_method_33_code 41 = .ok (.ireturn, 1) := by decide +kernel
def f_R_howMany (m_rankOf_n : Nat) (m_rankOf : Nat → Int32) (m_sizes_n : Nat) (m_sizes : Nat → Int32) (m_ranks_n : Nat) (m_ranks : Nat → Int32) (m_elements_n : Nat) (m_elements : Nat → Int32) (k0 : Int32) (kind0 : Int32) : Option (Int32) :=
  lo2 (fun k_5 (v4_1 : Int32) (v3_2 : Int32) => ck_b1 (f_R_whole m_elements_n m_elements k0) <| fun r_3 => ck_if (r_3 < v4_1) (some v3_2) (ck_b1 (f_R_isOf m_rankOf_n m_rankOf m_sizes_n m_sizes m_ranks_n m_ranks m_elements_n m_elements k0 kind0 v4_1) <| fun r_6 => ck_jn (fun (s0_8 : Int32) => ck_nm (v4_1 + 1) <| fun x_9 => k_5 x_9 s0_8) <| fun k_33 => ck_if (r_6 = 0) (k_33 v3_2) (k_33 (v3_2 + 1)))) ck_F 0 0
set_option maxHeartbeats 4000000 in
set_option maxRecDepth 100000 in
theorem c_R_howMany (l : Launch) (dC : Nat → ClassId) (dI : Nat → Nat → Nat) (cI cJ cB cZ cT cN : ClassId) (sz : Nat) (h_m : Nat) (h_m_one : Nat) (h_m_two : Nat) (h_m_three : Nat) (h_m_four : Nat) (h_m_five : Nat) (h_m_six : Nat) (h_m_seven : Nat) (h_m_eight : Nat) (h_m_work : Nat) (h_m_small : Nat) (h_m_pivots : Nat) (h_m_freeRows : Nat) (h_m_freeColumns : Nat) (h_m_minor : Nat) (h_m_smallMinor : Nat) (h_m_fields : Nat) (h_m_rowCounts : Nat) (h_m_elements : Nat) (h_m_numbers : Nat) (h_m_known : Nat) (h_m_ranks : Nat) (h_m_rankOf : Nat) (h_m_signOf : Nat) (h_m_order : Nat) (h_m_sizes : Nat) (h_m_coefficients : Nat) (h_m_choices : Nat) (h_m_sorted : Nat) (m_rows : Int32) (m_columns : Int32) (m_prime : Int32) (m_rankOf_n : Nat) (m_rankOf : Nat → Int32) (m_sizes_n : Nat) (m_sizes : Nat → Int32) (m_ranks_n : Nat) (m_ranks : Nat → Int32) (m_elements_n : Nat) (m_elements : Nat → Int32) (k0 : Int32) (kind0 : Int32) (r : Int32) (h : f_R_howMany m_rankOf_n m_rankOf m_sizes_n m_sizes m_ranks_n m_ranks m_elements_n m_elements k0 kind0 = some r) : Met l y_Mo_howMany w_Mo_howMany ({ frames := 4, cells := 0, slots := 0, locals := 93 } : Room) (va_Pc [.ref h_m, .int k0, .int kind0] (fun U => U.heap.size = sz ∧ va_P (dC, dI) cl_all [(h_m, .inr (6, [.ref h_m_one, .ref h_m_two, .ref h_m_three, .ref h_m_four, .ref h_m_five, .ref h_m_six, .ref h_m_seven, .ref h_m_eight, .ref h_m_work, .ref h_m_small, .int m_rows, .int m_columns, .int m_prime, .ref h_m_pivots, .ref h_m_freeRows, .ref h_m_freeColumns, .ref h_m_minor, .ref h_m_smallMinor, .ref h_m_fields, .ref h_m_rowCounts, .ref h_m_elements, .ref h_m_numbers, .ref h_m_known, .ref h_m_ranks, .ref h_m_rankOf, .ref h_m_signOf, .ref h_m_order, .ref h_m_sizes, .ref h_m_coefficients, .ref h_m_choices, .ref h_m_sorted])), (h_m_rankOf, .inl (cB, m_rankOf_n, .inl m_rankOf)), (h_m_sizes, .inl (cI, m_sizes_n, .inl m_sizes)), (h_m_ranks, .inl (cI, m_ranks_n, .inl m_ranks)), (h_m_elements, .inl (cI, m_elements_n, .inl m_elements))] U.heap ∧ va_K (dC, dI) cl_all [(cI, .int), (cJ, .long), (cB, .byte), (cZ, .boolean), (cT, .object "BasisWalk$Table"), (cN, .object "BasisWalkModel$Num")] U ∧ NW U ∧ va_D (fun _ => True) [(h_m, .inr (6, [.ref h_m_one, .ref h_m_two, .ref h_m_three, .ref h_m_four, .ref h_m_five, .ref h_m_six, .ref h_m_seven, .ref h_m_eight, .ref h_m_work, .ref h_m_small, .int m_rows, .int m_columns, .int m_prime, .ref h_m_pivots, .ref h_m_freeRows, .ref h_m_freeColumns, .ref h_m_minor, .ref h_m_smallMinor, .ref h_m_fields, .ref h_m_rowCounts, .ref h_m_elements, .ref h_m_numbers, .ref h_m_known, .ref h_m_ranks, .ref h_m_rankOf, .ref h_m_signOf, .ref h_m_order, .ref h_m_sizes, .ref h_m_coefficients, .ref h_m_choices, .ref h_m_sorted])), (h_m_rankOf, .inl (cB, m_rankOf_n, .inl m_rankOf)), (h_m_sizes, .inl (cI, m_sizes_n, .inl m_sizes)), (h_m_ranks, .inl (cI, m_ranks_n, .inl m_ranks)), (h_m_elements, .inl (cI, m_elements_n, .inl m_elements))])) (va_Qi (fun (v : Int32) (_ : Unit) => v = r) (fun (u : Unit) (t : State) => va_P (dC, dI) cl_all [(h_m, .inr (6, [.ref h_m_one, .ref h_m_two, .ref h_m_three, .ref h_m_four, .ref h_m_five, .ref h_m_six, .ref h_m_seven, .ref h_m_eight, .ref h_m_work, .ref h_m_small, .int m_rows, .int m_columns, .int m_prime, .ref h_m_pivots, .ref h_m_freeRows, .ref h_m_freeColumns, .ref h_m_minor, .ref h_m_smallMinor, .ref h_m_fields, .ref h_m_rowCounts, .ref h_m_elements, .ref h_m_numbers, .ref h_m_known, .ref h_m_ranks, .ref h_m_rankOf, .ref h_m_signOf, .ref h_m_order, .ref h_m_sizes, .ref h_m_coefficients, .ref h_m_choices, .ref h_m_sorted])), (h_m_rankOf, .inl (cB, m_rankOf_n, .inl m_rankOf)), (h_m_sizes, .inl (cI, m_sizes_n, .inl m_sizes)), (h_m_ranks, .inl (cI, m_ranks_n, .inl m_ranks)), (h_m_elements, .inl (cI, m_elements_n, .inl m_elements))] t.heap ∧ va_K (dC, dI) cl_all [(cI, .int), (cJ, .long), (cB, .byte), (cZ, .boolean), (cT, .object "BasisWalk$Table"), (cN, .object "BasisWalkModel$Num")] t ∧ va_D (va_A [(h_m, .inr (6, [.ref h_m_one, .ref h_m_two, .ref h_m_three, .ref h_m_four, .ref h_m_five, .ref h_m_six, .ref h_m_seven, .ref h_m_eight, .ref h_m_work, .ref h_m_small, .int m_rows, .int m_columns, .int m_prime, .ref h_m_pivots, .ref h_m_freeRows, .ref h_m_freeColumns, .ref h_m_minor, .ref h_m_smallMinor, .ref h_m_fields, .ref h_m_rowCounts, .ref h_m_elements, .ref h_m_numbers, .ref h_m_known, .ref h_m_ranks, .ref h_m_rankOf, .ref h_m_signOf, .ref h_m_order, .ref h_m_sizes, .ref h_m_coefficients, .ref h_m_choices, .ref h_m_sorted])), (h_m_rankOf, .inl (cB, m_rankOf_n, .inl m_rankOf)), (h_m_sizes, .inl (cI, m_sizes_n, .inl m_sizes)), (h_m_ranks, .inl (cI, m_ranks_n, .inl m_ranks)), (h_m_elements, .inl (cI, m_elements_n, .inl m_elements))] sz) [(h_m, .inr (6, [.ref h_m_one, .ref h_m_two, .ref h_m_three, .ref h_m_four, .ref h_m_five, .ref h_m_six, .ref h_m_seven, .ref h_m_eight, .ref h_m_work, .ref h_m_small, .int m_rows, .int m_columns, .int m_prime, .ref h_m_pivots, .ref h_m_freeRows, .ref h_m_freeColumns, .ref h_m_minor, .ref h_m_smallMinor, .ref h_m_fields, .ref h_m_rowCounts, .ref h_m_elements, .ref h_m_numbers, .ref h_m_known, .ref h_m_ranks, .ref h_m_rankOf, .ref h_m_signOf, .ref h_m_order, .ref h_m_sizes, .ref h_m_coefficients, .ref h_m_choices, .ref h_m_sorted])), (h_m_rankOf, .inl (cB, m_rankOf_n, .inl m_rankOf)), (h_m_sizes, .inl (cI, m_sizes_n, .inl m_sizes)), (h_m_ranks, .inl (cI, m_ranks_n, .inl m_ranks)), (h_m_elements, .inl (cI, m_elements_n, .inl m_elements))]) (va_A [(h_m, .inr (6, [.ref h_m_one, .ref h_m_two, .ref h_m_three, .ref h_m_four, .ref h_m_five, .ref h_m_six, .ref h_m_seven, .ref h_m_eight, .ref h_m_work, .ref h_m_small, .int m_rows, .int m_columns, .int m_prime, .ref h_m_pivots, .ref h_m_freeRows, .ref h_m_freeColumns, .ref h_m_minor, .ref h_m_smallMinor, .ref h_m_fields, .ref h_m_rowCounts, .ref h_m_elements, .ref h_m_numbers, .ref h_m_known, .ref h_m_ranks, .ref h_m_rankOf, .ref h_m_signOf, .ref h_m_order, .ref h_m_sizes, .ref h_m_coefficients, .ref h_m_choices, .ref h_m_sorted])), (h_m_rankOf, .inl (cB, m_rankOf_n, .inl m_rankOf)), (h_m_sizes, .inl (cI, m_sizes_n, .inl m_sizes)), (h_m_ranks, .inl (cI, m_ranks_n, .inl m_ranks)), (h_m_elements, .inl (cI, m_elements_n, .inl m_elements))] sz)) 0 0 (va_A [(h_m, .inr (6, [.ref h_m_one, .ref h_m_two, .ref h_m_three, .ref h_m_four, .ref h_m_five, .ref h_m_six, .ref h_m_seven, .ref h_m_eight, .ref h_m_work, .ref h_m_small, .int m_rows, .int m_columns, .int m_prime, .ref h_m_pivots, .ref h_m_freeRows, .ref h_m_freeColumns, .ref h_m_minor, .ref h_m_smallMinor, .ref h_m_fields, .ref h_m_rowCounts, .ref h_m_elements, .ref h_m_numbers, .ref h_m_known, .ref h_m_ranks, .ref h_m_rankOf, .ref h_m_signOf, .ref h_m_order, .ref h_m_sizes, .ref h_m_coefficients, .ref h_m_choices, .ref h_m_sorted])), (h_m_rankOf, .inl (cB, m_rankOf_n, .inl m_rankOf)), (h_m_sizes, .inl (cI, m_sizes_n, .inl m_sizes)), (h_m_ranks, .inl (cI, m_ranks_n, .inl m_ranks)), (h_m_elements, .inl (cI, m_elements_n, .inl m_elements))] sz) := by
  refine Met.ofW (cc := prog_7_method_33_code) (maxL := 5) (ret := (Option.some Jvm.ClassFile.FieldType.int)) (by decide) rfl ?_
  intro p e s m args below meth c s₁ B hml hv
  obtain ⟨hAR, hsz, hP, hK, hN, hD0⟩ := hv
  have hx := B.exec
  have hb := B.bytes
  have hr := B.returns
  have hts := atoms_spec (ws := w_Mo_howMany) B.pre
  have hown : s.vm.findClass "BasisWalkModel" = some m.cls := findClass_of_methodNamed B.named
  have hlocks := B.notSynchronized
  clear B
  subst hsz
  have hD := hD0.self (sz := s.heap.size)
  generalize hAe : va_A [(h_m, .inr (6, [.ref h_m_one, .ref h_m_two, .ref h_m_three, .ref h_m_four, .ref h_m_five, .ref h_m_six, .ref h_m_seven, .ref h_m_eight, .ref h_m_work, .ref h_m_small, .int m_rows, .int m_columns, .int m_prime, .ref h_m_pivots, .ref h_m_freeRows, .ref h_m_freeColumns, .ref h_m_minor, .ref h_m_smallMinor, .ref h_m_fields, .ref h_m_rowCounts, .ref h_m_elements, .ref h_m_numbers, .ref h_m_known, .ref h_m_ranks, .ref h_m_rankOf, .ref h_m_signOf, .ref h_m_order, .ref h_m_sizes, .ref h_m_coefficients, .ref h_m_choices, .ref h_m_sorted])), (h_m_rankOf, .inl (cB, m_rankOf_n, .inl m_rankOf)), (h_m_sizes, .inl (cI, m_sizes_n, .inl m_sizes)), (h_m_ranks, .inl (cI, m_ranks_n, .inl m_ranks)), (h_m_elements, .inl (cI, m_elements_n, .inl m_elements))] s.heap.size = A at hD ⊢
  have hA : ∀ q : Nat, s.heap.size ≤ q → A q := fun q h => by rw [← hAe]; exact Or.inr h
  clear hAe hD0
  have hS : va_S A s.heap s.heap [] := va_S.rf
  have hl := lv_entry ([.ref h_m, .int k0, .int kind0]) (n := 5) (Nat.le_of_ble_eq_true rfl)
  subst hAR
  rw [lg_entry_eq]
  generalize (lg_sl ([.ref h_m, .int k0, .int kind0]) ++ List.replicate (5 - (lg_sl ([.ref h_m, .int k0, .int kind0])).length) Slot.unset).toArray = ls at hl ⊢
  have hl : lv_has ls 5 [(0, .ref h_m), (1, .int k0), (2, .int kind0)] := hl
  change W p l e ({ frames := 4, cells := 0, slots := 0, locals := 93 } : Room) s m _ below meth c s.heap [] 0 0 _ _
  generalize hARe : ([.ref h_m, .int k0, .int kind0] : List Value).toArray = AR at hts ⊢
  clear hARe
  generalize hQ : MQ below _ AR s 0 0 A = QQ
  obtain ⟨H, hHe⟩ : ∃ H : Heap, H = s.heap := ⟨_, rfl⟩
  rw [← hHe] at hP ⊢
  replace hS : va_S A s.heap H [] := by rw [hHe]; exact va_S.rf
  clear hHe
  unfold f_R_howMany at h
  refine lv_iconst (v := 0) hx hb d_Mo_howMany_0 (by decide) ?_
  refine lv_istore_n (lv' := [(3, .int 0), (0, .ref h_m), (1, .int k0), (2, .int kind0)]) hx hb d_Mo_howMany_1 rfl hl (by decide) rfl (fun ls hl => ?_)
  refine lv_iconst (v := 0) hx hb d_Mo_howMany_2 (by decide) ?_
  refine lv_istore (lv' := [(4, .int 0), (3, .int 0), (0, .ref h_m), (1, .int k0), (2, .int kind0)]) hx hb d_Mo_howMany_3 hl (by decide) rfl (fun ls hl => ?_)
  refine lo2_W (r := r) (fun (v4_1 : Int32) (v3_2 : Int32) => ∀ (H : Heap) (locs : List Loc), va_P (dC, dI) cl_all [(h_m, .inr (6, [.ref h_m_one, .ref h_m_two, .ref h_m_three, .ref h_m_four, .ref h_m_five, .ref h_m_six, .ref h_m_seven, .ref h_m_eight, .ref h_m_work, .ref h_m_small, .int m_rows, .int m_columns, .int m_prime, .ref h_m_pivots, .ref h_m_freeRows, .ref h_m_freeColumns, .ref h_m_minor, .ref h_m_smallMinor, .ref h_m_fields, .ref h_m_rowCounts, .ref h_m_elements, .ref h_m_numbers, .ref h_m_known, .ref h_m_ranks, .ref h_m_rankOf, .ref h_m_signOf, .ref h_m_order, .ref h_m_sizes, .ref h_m_coefficients, .ref h_m_choices, .ref h_m_sorted])), (h_m_rankOf, .inl (cB, m_rankOf_n, .inl m_rankOf)), (h_m_sizes, .inl (cI, m_sizes_n, .inl m_sizes)), (h_m_ranks, .inl (cI, m_ranks_n, .inl m_ranks)), (h_m_elements, .inl (cI, m_elements_n, .inl m_elements))] H → va_D A [(h_m, .inr (6, [.ref h_m_one, .ref h_m_two, .ref h_m_three, .ref h_m_four, .ref h_m_five, .ref h_m_six, .ref h_m_seven, .ref h_m_eight, .ref h_m_work, .ref h_m_small, .int m_rows, .int m_columns, .int m_prime, .ref h_m_pivots, .ref h_m_freeRows, .ref h_m_freeColumns, .ref h_m_minor, .ref h_m_smallMinor, .ref h_m_fields, .ref h_m_rowCounts, .ref h_m_elements, .ref h_m_numbers, .ref h_m_known, .ref h_m_ranks, .ref h_m_rankOf, .ref h_m_signOf, .ref h_m_order, .ref h_m_sizes, .ref h_m_coefficients, .ref h_m_choices, .ref h_m_sorted])), (h_m_rankOf, .inl (cB, m_rankOf_n, .inl m_rankOf)), (h_m_sizes, .inl (cI, m_sizes_n, .inl m_sizes)), (h_m_ranks, .inl (cI, m_ranks_n, .inl m_ranks)), (h_m_elements, .inl (cI, m_elements_n, .inl m_elements))] → va_S A s.heap H locs → ∀ ls : Array Slot, lv_has ls 5 [(0, .ref h_m), (1, .int k0), (2, .int kind0), (3, .int v3_2), (4, .int v4_1)] → W p l e ({ frames := 4, cells := 0, slots := 0, locals := 93 } : Room) s m AR below meth c H locs 0 0 QQ (F0 m 5 ls [])) ?_ _ _ _ h _ _ hP hD hS _ (lv_sub hl [2, 3, 4, 1, 0] rfl)
  intro k_5 v4_1 v3_2 J_5 h H locs hP hD hS ls hl
  refine lv_iload hx hb d_Mo_howMany_5 (lv_at hl 4 rfl) ?_
  refine lv_aload_n hx hb d_Mo_howMany_7 rfl (lv_at hl 0 rfl) ?_
  refine lv_iload_n hx hb d_Mo_howMany_8 rfl (lv_at hl 1 rfl) ?_
  obtain ⟨r_3, hc_4, h⟩ := ck_b1_s h
  have hPc := hP.sub (ws' := [(h_m, .inr (6, [.ref h_m_one, .ref h_m_two, .ref h_m_three, .ref h_m_four, .ref h_m_five, .ref h_m_six, .ref h_m_seven, .ref h_m_eight, .ref h_m_work, .ref h_m_small, .int m_rows, .int m_columns, .int m_prime, .ref h_m_pivots, .ref h_m_freeRows, .ref h_m_freeColumns, .ref h_m_minor, .ref h_m_smallMinor, .ref h_m_fields, .ref h_m_rowCounts, .ref h_m_elements, .ref h_m_numbers, .ref h_m_known, .ref h_m_ranks, .ref h_m_rankOf, .ref h_m_signOf, .ref h_m_order, .ref h_m_sizes, .ref h_m_coefficients, .ref h_m_choices, .ref h_m_sorted])), (h_m_elements, .inl (cI, m_elements_n, .inl m_elements))]) [0, 4] rfl
  have hDc := hD.sub (ws' := [(h_m, .inr (6, [.ref h_m_one, .ref h_m_two, .ref h_m_three, .ref h_m_four, .ref h_m_five, .ref h_m_six, .ref h_m_seven, .ref h_m_eight, .ref h_m_work, .ref h_m_small, .int m_rows, .int m_columns, .int m_prime, .ref h_m_pivots, .ref h_m_freeRows, .ref h_m_freeColumns, .ref h_m_minor, .ref h_m_smallMinor, .ref h_m_fields, .ref h_m_rowCounts, .ref h_m_elements, .ref h_m_numbers, .ref h_m_known, .ref h_m_ranks, .ref h_m_rankOf, .ref h_m_signOf, .ref h_m_order, .ref h_m_sizes, .ref h_m_coefficients, .ref h_m_choices, .ref h_m_sorted])), (h_m_elements, .inl (cI, m_elements_n, .inl m_elements))]) [0, 4] (by decide) rfl
  have hFc := va_free (wc := [(h_m, .inr (6, [.ref h_m_one, .ref h_m_two, .ref h_m_three, .ref h_m_four, .ref h_m_five, .ref h_m_six, .ref h_m_seven, .ref h_m_eight, .ref h_m_work, .ref h_m_small, .int m_rows, .int m_columns, .int m_prime, .ref h_m_pivots, .ref h_m_freeRows, .ref h_m_freeColumns, .ref h_m_minor, .ref h_m_smallMinor, .ref h_m_fields, .ref h_m_rowCounts, .ref h_m_elements, .ref h_m_numbers, .ref h_m_known, .ref h_m_ranks, .ref h_m_rankOf, .ref h_m_signOf, .ref h_m_order, .ref h_m_sizes, .ref h_m_coefficients, .ref h_m_choices, .ref h_m_sorted])), (h_m_elements, .inl (cI, m_elements_n, .inl m_elements))]) hD hS hA [0, 4] rfl
  refine va_calli (va_runV (As := [.int k0]) (rest := [.int v4_1]) ⟨hx, hb, hml, hown, hts⟩ (c_R_whole l dC dI cI cJ cB cZ cT cN H.size h_m h_m_one h_m_two h_m_three h_m_four h_m_five h_m_six h_m_seven h_m_eight h_m_work h_m_small h_m_pivots h_m_freeRows h_m_freeColumns h_m_minor h_m_smallMinor h_m_fields h_m_rowCounts h_m_elements h_m_numbers h_m_known h_m_ranks h_m_rankOf h_m_signOf h_m_order h_m_sizes h_m_coefficients h_m_choices h_m_sorted m_rows m_columns m_prime m_elements_n m_elements k0 _ hc_4) (cwV 1 hts (tb_V tw_598 tw_600 tp_34 tw_6 tw_601) rfl rfl rfl (by decide +kernel) ⟨Nat.le_of_ble_eq_true rfl, Nat.le_of_ble_eq_true rfl⟩) ⟨fun a U g mk q => by obtain ⟨q0, q1, qP, qK, qN, qD⟩ := q; exact ⟨q0, q1, qP, va_K.moved (u := U) (U := U.calling g mk a) (Vm.Alike.refl U.vm) qK, qN.same rfl, qD⟩, va_recv hK hPc (ci := 6) (q0 := 0) rfl rfl, fun U hU hW => ⟨rfl, by rw [hU], by rw [hU]; exact hPc, va_K.moved hW.alike hK, hN.warm hW, hDc.weaken (fun _ _ _ _ => trivial)⟩⟩ rfl rfl hl.1 rfl (lv_room (Nat.le_of_ble_eq_true rfl)) d_Mo_howMany_9 ⟨Nat.zero_le _, Nat.zero_le _⟩) hS (fun q _ h => hFc q h) hFc (fun rr u t H1 locs ht hvm hw hB hz1 hk1 hS => ?_)
  replace hw := hw.symm
  subst hw
  obtain ⟨hP1, -, hD1⟩ := hB
  rw [ht] at hP1
  obtain ⟨hP, hD⟩ := va_join (wr := [(h_m_rankOf, .inl (cB, m_rankOf_n, .inl m_rankOf)), (h_m_sizes, .inl (cI, m_sizes_n, .inl m_sizes)), (h_m_ranks, .inl (cI, m_ranks_n, .inl m_ranks))]) (w1 := [(h_m, .inr (6, [.ref h_m_one, .ref h_m_two, .ref h_m_three, .ref h_m_four, .ref h_m_five, .ref h_m_six, .ref h_m_seven, .ref h_m_eight, .ref h_m_work, .ref h_m_small, .int m_rows, .int m_columns, .int m_prime, .ref h_m_pivots, .ref h_m_freeRows, .ref h_m_freeColumns, .ref h_m_minor, .ref h_m_smallMinor, .ref h_m_fields, .ref h_m_rowCounts, .ref h_m_elements, .ref h_m_numbers, .ref h_m_known, .ref h_m_ranks, .ref h_m_rankOf, .ref h_m_signOf, .ref h_m_order, .ref h_m_sizes, .ref h_m_coefficients, .ref h_m_choices, .ref h_m_sorted])), (h_m_elements, .inl (cI, m_elements_n, .inl m_elements))]) hP hD [0, 4] [1, 2, 3] rfl rfl (by decide) (by decide) hk1 hFc hP1 hD1
  generalize H1 = H at hP hS ⊢
  have hP : va_P (dC, dI) cl_all [(h_m, .inr (6, [.ref h_m_one, .ref h_m_two, .ref h_m_three, .ref h_m_four, .ref h_m_five, .ref h_m_six, .ref h_m_seven, .ref h_m_eight, .ref h_m_work, .ref h_m_small, .int m_rows, .int m_columns, .int m_prime, .ref h_m_pivots, .ref h_m_freeRows, .ref h_m_freeColumns, .ref h_m_minor, .ref h_m_smallMinor, .ref h_m_fields, .ref h_m_rowCounts, .ref h_m_elements, .ref h_m_numbers, .ref h_m_known, .ref h_m_ranks, .ref h_m_rankOf, .ref h_m_signOf, .ref h_m_order, .ref h_m_sizes, .ref h_m_coefficients, .ref h_m_choices, .ref h_m_sorted])), (h_m_rankOf, .inl (cB, m_rankOf_n, .inl m_rankOf)), (h_m_sizes, .inl (cI, m_sizes_n, .inl m_sizes)), (h_m_ranks, .inl (cI, m_ranks_n, .inl m_ranks)), (h_m_elements, .inl (cI, m_elements_n, .inl m_elements))] H := hP.sub [3, 0, 1, 2, 4] rfl
  have hD : va_D A [(h_m, .inr (6, [.ref h_m_one, .ref h_m_two, .ref h_m_three, .ref h_m_four, .ref h_m_five, .ref h_m_six, .ref h_m_seven, .ref h_m_eight, .ref h_m_work, .ref h_m_small, .int m_rows, .int m_columns, .int m_prime, .ref h_m_pivots, .ref h_m_freeRows, .ref h_m_freeColumns, .ref h_m_minor, .ref h_m_smallMinor, .ref h_m_fields, .ref h_m_rowCounts, .ref h_m_elements, .ref h_m_numbers, .ref h_m_known, .ref h_m_ranks, .ref h_m_rankOf, .ref h_m_signOf, .ref h_m_order, .ref h_m_sizes, .ref h_m_coefficients, .ref h_m_choices, .ref h_m_sorted])), (h_m_rankOf, .inl (cB, m_rankOf_n, .inl m_rankOf)), (h_m_sizes, .inl (cI, m_sizes_n, .inl m_sizes)), (h_m_ranks, .inl (cI, m_ranks_n, .inl m_ranks)), (h_m_elements, .inl (cI, m_elements_n, .inl m_elements))] := hD.sub [3, 0, 1, 2, 4] (by decide) rfl
  refine lv_icmp_gt (tgt := 40) hx hb d_Mo_howMany_12 (by decide) (fun c_5 => ?_) (fun c_5 => ?_)
  · replace h := ck_if_t h c_5
    refine lv_iload_n hx hb d_Mo_howMany_40 rfl (lv_at hl 3 rfl) ?_
    obtain rfl := Option.some.inj h
    subst hQ
    exact W.iret (v := v3_2) hx hb hr (fun t ht hW => ⟨⟨v3_2, (), rfl, rfl, by rw [ht]; exact hP, va_K.moved hW.alike hK, hD⟩, hS.F ht⟩) hS.2.2 d_Mo_howMany_41
  · replace h := ck_if_f h c_5
    refine lv_aload_n hx hb d_Mo_howMany_15 rfl (lv_at hl 0 rfl) ?_
    refine lv_iload_n hx hb d_Mo_howMany_16 rfl (lv_at hl 1 rfl) ?_
    refine lv_iload_n hx hb d_Mo_howMany_17 rfl (lv_at hl 2 rfl) ?_
    refine lv_iload hx hb d_Mo_howMany_18 (lv_at hl 4 rfl) ?_
    obtain ⟨r_6, hc_7, h⟩ := ck_b1_s h
    have hPc := hP.sub (ws' := [(h_m, .inr (6, [.ref h_m_one, .ref h_m_two, .ref h_m_three, .ref h_m_four, .ref h_m_five, .ref h_m_six, .ref h_m_seven, .ref h_m_eight, .ref h_m_work, .ref h_m_small, .int m_rows, .int m_columns, .int m_prime, .ref h_m_pivots, .ref h_m_freeRows, .ref h_m_freeColumns, .ref h_m_minor, .ref h_m_smallMinor, .ref h_m_fields, .ref h_m_rowCounts, .ref h_m_elements, .ref h_m_numbers, .ref h_m_known, .ref h_m_ranks, .ref h_m_rankOf, .ref h_m_signOf, .ref h_m_order, .ref h_m_sizes, .ref h_m_coefficients, .ref h_m_choices, .ref h_m_sorted])), (h_m_rankOf, .inl (cB, m_rankOf_n, .inl m_rankOf)), (h_m_sizes, .inl (cI, m_sizes_n, .inl m_sizes)), (h_m_ranks, .inl (cI, m_ranks_n, .inl m_ranks)), (h_m_elements, .inl (cI, m_elements_n, .inl m_elements))]) [0, 1, 2, 3, 4] rfl
    have hDc := hD.sub (ws' := [(h_m, .inr (6, [.ref h_m_one, .ref h_m_two, .ref h_m_three, .ref h_m_four, .ref h_m_five, .ref h_m_six, .ref h_m_seven, .ref h_m_eight, .ref h_m_work, .ref h_m_small, .int m_rows, .int m_columns, .int m_prime, .ref h_m_pivots, .ref h_m_freeRows, .ref h_m_freeColumns, .ref h_m_minor, .ref h_m_smallMinor, .ref h_m_fields, .ref h_m_rowCounts, .ref h_m_elements, .ref h_m_numbers, .ref h_m_known, .ref h_m_ranks, .ref h_m_rankOf, .ref h_m_signOf, .ref h_m_order, .ref h_m_sizes, .ref h_m_coefficients, .ref h_m_choices, .ref h_m_sorted])), (h_m_rankOf, .inl (cB, m_rankOf_n, .inl m_rankOf)), (h_m_sizes, .inl (cI, m_sizes_n, .inl m_sizes)), (h_m_ranks, .inl (cI, m_ranks_n, .inl m_ranks)), (h_m_elements, .inl (cI, m_elements_n, .inl m_elements))]) [0, 1, 2, 3, 4] (by decide) rfl
    have hFc := va_free (wc := [(h_m, .inr (6, [.ref h_m_one, .ref h_m_two, .ref h_m_three, .ref h_m_four, .ref h_m_five, .ref h_m_six, .ref h_m_seven, .ref h_m_eight, .ref h_m_work, .ref h_m_small, .int m_rows, .int m_columns, .int m_prime, .ref h_m_pivots, .ref h_m_freeRows, .ref h_m_freeColumns, .ref h_m_minor, .ref h_m_smallMinor, .ref h_m_fields, .ref h_m_rowCounts, .ref h_m_elements, .ref h_m_numbers, .ref h_m_known, .ref h_m_ranks, .ref h_m_rankOf, .ref h_m_signOf, .ref h_m_order, .ref h_m_sizes, .ref h_m_coefficients, .ref h_m_choices, .ref h_m_sorted])), (h_m_rankOf, .inl (cB, m_rankOf_n, .inl m_rankOf)), (h_m_sizes, .inl (cI, m_sizes_n, .inl m_sizes)), (h_m_ranks, .inl (cI, m_ranks_n, .inl m_ranks)), (h_m_elements, .inl (cI, m_elements_n, .inl m_elements))]) hD hS hA [0, 1, 2, 3, 4] rfl
    refine va_calli (va_runV (As := [.int k0, .int kind0, .int v4_1]) (rest := []) ⟨hx, hb, hml, hown, hts⟩ (c_R_isOf l dC dI cI cJ cB cZ cT cN H.size h_m h_m_one h_m_two h_m_three h_m_four h_m_five h_m_six h_m_seven h_m_eight h_m_work h_m_small h_m_pivots h_m_freeRows h_m_freeColumns h_m_minor h_m_smallMinor h_m_fields h_m_rowCounts h_m_elements h_m_numbers h_m_known h_m_ranks h_m_rankOf h_m_signOf h_m_order h_m_sizes h_m_coefficients h_m_choices h_m_sorted m_rows m_columns m_prime m_rankOf_n m_rankOf m_sizes_n m_sizes m_ranks_n m_ranks m_elements_n m_elements k0 kind0 v4_1 _ hc_7) (cwV 3 hts (tb_V tw_614 tw_616 tp_37 tw_6 tw_617) rfl rfl rfl (by decide +kernel) ⟨Nat.le_of_ble_eq_true rfl, Nat.le_of_ble_eq_true rfl⟩) ⟨fun a U g mk q => by obtain ⟨q0, q1, qP, qK, qN, qD⟩ := q; exact ⟨q0, q1, qP, va_K.moved (u := U) (U := U.calling g mk a) (Vm.Alike.refl U.vm) qK, qN.same rfl, qD⟩, va_recv hK hPc (ci := 6) (q0 := 0) rfl rfl, fun U hU hW => ⟨rfl, by rw [hU], by rw [hU]; exact hPc, va_K.moved hW.alike hK, hN.warm hW, hDc.weaken (fun _ _ _ _ => trivial)⟩⟩ rfl rfl hl.1 rfl (lv_room (Nat.le_of_ble_eq_true rfl)) d_Mo_howMany_20 ⟨Nat.zero_le _, Nat.zero_le _⟩) hS (fun q _ h => hFc q h) hFc (fun rr u t H1 locs ht hvm hw hB hz1 hk1 hS => ?_)
    replace hw := hw.symm
    subst hw
    obtain ⟨hP1, -, hD1⟩ := hB
    rw [ht] at hP1
    obtain ⟨hP, hD⟩ := va_join (wr := []) (w1 := [(h_m, .inr (6, [.ref h_m_one, .ref h_m_two, .ref h_m_three, .ref h_m_four, .ref h_m_five, .ref h_m_six, .ref h_m_seven, .ref h_m_eight, .ref h_m_work, .ref h_m_small, .int m_rows, .int m_columns, .int m_prime, .ref h_m_pivots, .ref h_m_freeRows, .ref h_m_freeColumns, .ref h_m_minor, .ref h_m_smallMinor, .ref h_m_fields, .ref h_m_rowCounts, .ref h_m_elements, .ref h_m_numbers, .ref h_m_known, .ref h_m_ranks, .ref h_m_rankOf, .ref h_m_signOf, .ref h_m_order, .ref h_m_sizes, .ref h_m_coefficients, .ref h_m_choices, .ref h_m_sorted])), (h_m_rankOf, .inl (cB, m_rankOf_n, .inl m_rankOf)), (h_m_sizes, .inl (cI, m_sizes_n, .inl m_sizes)), (h_m_ranks, .inl (cI, m_ranks_n, .inl m_ranks)), (h_m_elements, .inl (cI, m_elements_n, .inl m_elements))]) hP hD [0, 1, 2, 3, 4] [] rfl rfl (by decide) (by decide) hk1 hFc hP1 hD1
    generalize H1 = H at hP hS ⊢
    have hP : va_P (dC, dI) cl_all [(h_m, .inr (6, [.ref h_m_one, .ref h_m_two, .ref h_m_three, .ref h_m_four, .ref h_m_five, .ref h_m_six, .ref h_m_seven, .ref h_m_eight, .ref h_m_work, .ref h_m_small, .int m_rows, .int m_columns, .int m_prime, .ref h_m_pivots, .ref h_m_freeRows, .ref h_m_freeColumns, .ref h_m_minor, .ref h_m_smallMinor, .ref h_m_fields, .ref h_m_rowCounts, .ref h_m_elements, .ref h_m_numbers, .ref h_m_known, .ref h_m_ranks, .ref h_m_rankOf, .ref h_m_signOf, .ref h_m_order, .ref h_m_sizes, .ref h_m_coefficients, .ref h_m_choices, .ref h_m_sorted])), (h_m_rankOf, .inl (cB, m_rankOf_n, .inl m_rankOf)), (h_m_sizes, .inl (cI, m_sizes_n, .inl m_sizes)), (h_m_ranks, .inl (cI, m_ranks_n, .inl m_ranks)), (h_m_elements, .inl (cI, m_elements_n, .inl m_elements))] H := hP.sub [0, 1, 2, 3, 4] rfl
    have hD : va_D A [(h_m, .inr (6, [.ref h_m_one, .ref h_m_two, .ref h_m_three, .ref h_m_four, .ref h_m_five, .ref h_m_six, .ref h_m_seven, .ref h_m_eight, .ref h_m_work, .ref h_m_small, .int m_rows, .int m_columns, .int m_prime, .ref h_m_pivots, .ref h_m_freeRows, .ref h_m_freeColumns, .ref h_m_minor, .ref h_m_smallMinor, .ref h_m_fields, .ref h_m_rowCounts, .ref h_m_elements, .ref h_m_numbers, .ref h_m_known, .ref h_m_ranks, .ref h_m_rankOf, .ref h_m_signOf, .ref h_m_order, .ref h_m_sizes, .ref h_m_coefficients, .ref h_m_choices, .ref h_m_sorted])), (h_m_rankOf, .inl (cB, m_rankOf_n, .inl m_rankOf)), (h_m_sizes, .inl (cI, m_sizes_n, .inl m_sizes)), (h_m_ranks, .inl (cI, m_ranks_n, .inl m_ranks)), (h_m_elements, .inl (cI, m_elements_n, .inl m_elements))] := hD.sub [0, 1, 2, 3, 4] (by decide) rfl
    refine ck_jn_W h (fun k' => ∀ (s0_8 : Int32), k' s0_8 = some r → ∀ (H : Heap) (locs : List Loc), va_P (dC, dI) cl_all [(h_m, .inr (6, [.ref h_m_one, .ref h_m_two, .ref h_m_three, .ref h_m_four, .ref h_m_five, .ref h_m_six, .ref h_m_seven, .ref h_m_eight, .ref h_m_work, .ref h_m_small, .int m_rows, .int m_columns, .int m_prime, .ref h_m_pivots, .ref h_m_freeRows, .ref h_m_freeColumns, .ref h_m_minor, .ref h_m_smallMinor, .ref h_m_fields, .ref h_m_rowCounts, .ref h_m_elements, .ref h_m_numbers, .ref h_m_known, .ref h_m_ranks, .ref h_m_rankOf, .ref h_m_signOf, .ref h_m_order, .ref h_m_sizes, .ref h_m_coefficients, .ref h_m_choices, .ref h_m_sorted])), (h_m_rankOf, .inl (cB, m_rankOf_n, .inl m_rankOf)), (h_m_sizes, .inl (cI, m_sizes_n, .inl m_sizes)), (h_m_ranks, .inl (cI, m_ranks_n, .inl m_ranks)), (h_m_elements, .inl (cI, m_elements_n, .inl m_elements))] H → va_D A [(h_m, .inr (6, [.ref h_m_one, .ref h_m_two, .ref h_m_three, .ref h_m_four, .ref h_m_five, .ref h_m_six, .ref h_m_seven, .ref h_m_eight, .ref h_m_work, .ref h_m_small, .int m_rows, .int m_columns, .int m_prime, .ref h_m_pivots, .ref h_m_freeRows, .ref h_m_freeColumns, .ref h_m_minor, .ref h_m_smallMinor, .ref h_m_fields, .ref h_m_rowCounts, .ref h_m_elements, .ref h_m_numbers, .ref h_m_known, .ref h_m_ranks, .ref h_m_rankOf, .ref h_m_signOf, .ref h_m_order, .ref h_m_sizes, .ref h_m_coefficients, .ref h_m_choices, .ref h_m_sorted])), (h_m_rankOf, .inl (cB, m_rankOf_n, .inl m_rankOf)), (h_m_sizes, .inl (cI, m_sizes_n, .inl m_sizes)), (h_m_ranks, .inl (cI, m_ranks_n, .inl m_ranks)), (h_m_elements, .inl (cI, m_elements_n, .inl m_elements))] → va_S A s.heap H locs → ∀ ls : Array Slot, lv_has ls 5 [(0, .ref h_m), (1, .int k0), (2, .int kind0), (4, .int v4_1)] → W p l e ({ frames := 4, cells := 0, slots := 0, locals := 93 } : Room) s m AR below meth c H locs 0 0 QQ (F0 m 33 ls [.int s0_8])) ?_ ?_
    · intro s0_8 h H locs hP hD hS ls hl
      refine lv_istore_n (lv' := [(3, .int s0_8), (0, .ref h_m), (1, .int k0), (2, .int kind0), (4, .int v4_1)]) hx hb d_Mo_howMany_33 rfl hl (by decide) rfl (fun ls hl => ?_)
      obtain ⟨x_9, ex_9⟩ : ∃ y : Int32, y = v4_1 + 1 := ⟨_, rfl⟩
      replace h := ck_nm_s h ex_9
      refine lv_iinc (v := x_9) (lv' := [(4, .int x_9), (3, .int s0_8), (0, .ref h_m), (1, .int k0), (2, .int kind0)]) hx hb d_Mo_howMany_34 hl (k := 4) rfl (by rw [ex_9]; rfl) (by decide) rfl (fun ls hl => ?_)
      refine lv_goto (tgt := 5) hx hb d_Mo_howMany_37 (by decide) ?_
      exact J_5 _ _ h _ _ hP hD hS _ (lv_sub hl [2, 3, 4, 1, 0] rfl)
    · intro k_33 J_33 h
      refine lv_if_eq (tgt := 32) hx hb d_Mo_howMany_23 (by decide) (fun c_10 => ?_) (fun c_10 => ?_)
      · replace h := ck_if_t h c_10
        refine lv_iload_n hx hb d_Mo_howMany_32 rfl (lv_at hl 3 rfl) ?_
        exact J_33 _ h _ _ hP hD hS _ (lv_sub hl [0, 1, 2, 4] rfl)
      · replace h := ck_if_f h c_10
        refine lv_iload_n hx hb d_Mo_howMany_26 rfl (lv_at hl 3 rfl) ?_
        refine lv_iconst (v := 1) hx hb d_Mo_howMany_27 (by decide) ?_
        refine lv_iadd hx hb d_Mo_howMany_28 ?_
        refine lv_goto (tgt := 33) hx hb d_Mo_howMany_29 (by decide) ?_
        exact J_33 _ h _ _ hP hD hS _ (lv_sub hl [0, 1, 2, 4] rfl)
theorem d_Mo_theOne_0 : decode prog_7_method_34_code 0 = .ok (.iconst 0, 1) := by decide +kernel
theorem d_Mo_theOne_1 : decode prog_7_method_34_code 1 = .ok (.istore 4, 2) := by decide +kernel
theorem d_Mo_theOne_3 : decode prog_7_method_34_code 3 = .ok (.iconst 0, 1) := by decide +kernel
theorem d_Mo_theOne_4 : decode prog_7_method_34_code 4 = .ok (.istore 5, 2) := by decide +kernel
theorem d_Mo_theOne_6 : decode prog_7_method_34_code 6 = .ok (.iload 5, 2) := by decide +kernel
theorem d_Mo_theOne_8 : decode prog_7_method_34_code 8 = .ok (.sipush 4096, 3) := by decide +kernel
theorem d_Mo_theOne_11 : decode prog_7_method_34_code 11 = .ok (.if_icmp .ge 61, 3) := by decide +kernel
theorem d_Mo_theOne_14 : decode prog_7_method_34_code 14 = .ok (.iload_n 3, 1) := by decide +kernel
theorem d_Mo_theOne_15 : decode prog_7_method_34_code 15 = .ok (.ifCond .lt 57, 3) := by decide +kernel
theorem d_Mo_theOne_18 : decode prog_7_method_34_code 18 = .ok (.aload_n 0, 1) := by decide +kernel
theorem d_Mo_theOne_19 : decode prog_7_method_34_code 19 = .ok (.getfield 179, 3) := by decide +kernel
theorem d_Mo_theOne_22 : decode prog_7_method_34_code 22 = .ok (.iload 5, 2) := by decide +kernel
theorem d_Mo_theOne_24 : decode prog_7_method_34_code 24 = .ok (.iaload, 1) := by decide +kernel
theorem d_Mo_theOne_25 : decode prog_7_method_34_code 25 = .ok (.aload_n 0, 1) := by decide +kernel
theorem d_Mo_theOne_26 : decode prog_7_method_34_code 26 = .ok (.iload_n 1, 1) := by decide +kernel
theorem d_Mo_theOne_27 : decode prog_7_method_34_code 27 = .ok (.invokevirtual 226, 3) := by decide +kernel
theorem d_Mo_theOne_30 : decode prog_7_method_34_code 30 = .ok (.if_icmp .gt 36, 3) := by decide +kernel
theorem d_Mo_theOne_33 : decode prog_7_method_34_code 33 = .ok (.aload_n 0, 1) := by decide +kernel
theorem d_Mo_theOne_34 : decode prog_7_method_34_code 34 = .ok (.iload_n 1, 1) := by decide +kernel
theorem d_Mo_theOne_35 : decode prog_7_method_34_code 35 = .ok (.iload_n 2, 1) := by decide +kernel
theorem d_Mo_theOne_36 : decode prog_7_method_34_code 36 = .ok (.aload_n 0, 1) := by decide +kernel
theorem d_Mo_theOne_37 : decode prog_7_method_34_code 37 = .ok (.getfield 179, 3) := by decide +kernel
theorem d_Mo_theOne_40 : decode prog_7_method_34_code 40 = .ok (.iload 5, 2) := by decide +kernel
theorem d_Mo_theOne_42 : decode prog_7_method_34_code 42 = .ok (.iaload, 1) := by decide +kernel
theorem d_Mo_theOne_43 : decode prog_7_method_34_code 43 = .ok (.invokevirtual 242, 3) := by decide +kernel
theorem d_Mo_theOne_46 : decode prog_7_method_34_code 46 = .ok (.ifCond .eq 20, 3) := by decide +kernel
theorem d_Mo_theOne_49 : decode prog_7_method_34_code 49 = .ok (.iload 4, 2) := by decide +kernel
theorem d_Mo_theOne_51 : decode prog_7_method_34_code 51 = .ok (.iload_n 3, 1) := by decide +kernel
theorem d_Mo_theOne_52 : decode prog_7_method_34_code 52 = .ok (.if_icmp .ne 11, 3) := by decide +kernel
theorem d_Mo_theOne_55 : decode prog_7_method_34_code 55 = .ok (.aload_n 0, 1) := by decide +kernel
theorem d_Mo_theOne_56 : decode prog_7_method_34_code 56 = .ok (.getfield 179, 3) := by decide +kernel
theorem d_Mo_theOne_59 : decode prog_7_method_34_code 59 = .ok (.iload 5, 2) := by decide +kernel
theorem d_Mo_theOne_61 : decode prog_7_method_34_code 61 = .ok (.iaload, 1) := by decide +kernel
theorem d_Mo_theOne_62 : decode prog_7_method_34_code 62 = .ok (.ireturn, 1) := by decide +kernel
theorem d_Mo_theOne_63 : decode prog_7_method_34_code 63 = .ok (.iinc 4 1, 3) := by decide +kernel
theorem d_Mo_theOne_66 : decode prog_7_method_34_code 66 = .ok (.iinc 5 1, 3) := by decide +kernel
theorem d_Mo_theOne_69 : decode prog_7_method_34_code 69 = .ok (.goto (-63), 3) := by decide +kernel
theorem d_Mo_theOne_72 : decode prog_7_method_34_code 72 = .ok (.iconst (-1), 1) := by decide +kernel
theorem d_Mo_theOne_73 : decode prog_7_method_34_code 73 = .ok (.ireturn, 1) := by decide +kernel
def f_R_theOne (m_rankOf_n : Nat) (m_rankOf : Nat → Int32) (m_sizes_n : Nat) (m_sizes : Nat → Int32) (m_ranks_n : Nat) (m_ranks : Nat → Int32) (m_elements_n : Nat) (m_elements : Nat → Int32) (m_order_n : Nat) (m_order : Nat → Int32) (k0 : Int32) (kind0 : Int32) (i0 : Int32) : Option (Int32) :=
  lo2 (fun k_6 (v5_1 : Int32) (v4_2 : Int32) => ck_if (4096 ≤ v5_1) (some (-1)) (ck_if (i0 < 0) (some (-1)) (ck_in v5_1 m_order_n <| ck_b1 (f_R_whole m_elements_n m_elements k0) <| fun r_6 => ck_jn (fun (v4_8 : Int32) => ck_nm (v5_1 + 1) <| fun x_9 => k_6 x_9 v4_8) <| fun k_66 => ck_if (r_6 < (m_order v5_1.toNatClampNeg)) (k_66 v4_2) (ck_in v5_1 m_order_n <| ck_b1 (f_R_isOf m_rankOf_n m_rankOf m_sizes_n m_sizes m_ranks_n m_ranks m_elements_n m_elements k0 kind0 (m_order v5_1.toNatClampNeg)) <| fun r_12 => ck_if (r_12 = 0) (k_66 v4_2) (ck_if (v4_2 = i0) (ck_in v5_1 m_order_n <| some (m_order v5_1.toNatClampNeg)) (ck_nm (v4_2 + 1) <| fun x_16 => k_66 x_16)))))) ck_F 0 0
set_option maxHeartbeats 4000000 in
set_option maxRecDepth 100000 in
theorem c_R_theOne (l : Launch) (dC : Nat → ClassId) (dI : Nat → Nat → Nat) (cI cJ cB cZ cT cN : ClassId) (sz : Nat) (h_m : Nat) (h_m_one : Nat) (h_m_two : Nat) (h_m_three : Nat) (h_m_four : Nat) (h_m_five : Nat) (h_m_six : Nat) (h_m_seven : Nat) (h_m_eight : Nat) (h_m_work : Nat) (h_m_small : Nat) (h_m_pivots : Nat) (h_m_freeRows : Nat) (h_m_freeColumns : Nat) (h_m_minor : Nat) (h_m_smallMinor : Nat) (h_m_fields : Nat) (h_m_rowCounts : Nat) (h_m_elements : Nat) (h_m_numbers : Nat) (h_m_known : Nat) (h_m_ranks : Nat) (h_m_rankOf : Nat) (h_m_signOf : Nat) (h_m_order : Nat) (h_m_sizes : Nat) (h_m_coefficients : Nat) (h_m_choices : Nat) (h_m_sorted : Nat) (m_rows : Int32) (m_columns : Int32) (m_prime : Int32) (m_rankOf_n : Nat) (m_rankOf : Nat → Int32) (m_sizes_n : Nat) (m_sizes : Nat → Int32) (m_ranks_n : Nat) (m_ranks : Nat → Int32) (m_elements_n : Nat) (m_elements : Nat → Int32) (m_order_n : Nat) (m_order : Nat → Int32) (k0 : Int32) (kind0 : Int32) (i0 : Int32) (r : Int32) (h : f_R_theOne m_rankOf_n m_rankOf m_sizes_n m_sizes m_ranks_n m_ranks m_elements_n m_elements m_order_n m_order k0 kind0 i0 = some r) : Met l y_Mo_theOne w_Mo_theOne ({ frames := 4, cells := 0, slots := 0, locals := 93 } : Room) (va_Pc [.ref h_m, .int k0, .int kind0, .int i0] (fun U => U.heap.size = sz ∧ va_P (dC, dI) cl_all [(h_m, .inr (6, [.ref h_m_one, .ref h_m_two, .ref h_m_three, .ref h_m_four, .ref h_m_five, .ref h_m_six, .ref h_m_seven, .ref h_m_eight, .ref h_m_work, .ref h_m_small, .int m_rows, .int m_columns, .int m_prime, .ref h_m_pivots, .ref h_m_freeRows, .ref h_m_freeColumns, .ref h_m_minor, .ref h_m_smallMinor, .ref h_m_fields, .ref h_m_rowCounts, .ref h_m_elements, .ref h_m_numbers, .ref h_m_known, .ref h_m_ranks, .ref h_m_rankOf, .ref h_m_signOf, .ref h_m_order, .ref h_m_sizes, .ref h_m_coefficients, .ref h_m_choices, .ref h_m_sorted])), (h_m_rankOf, .inl (cB, m_rankOf_n, .inl m_rankOf)), (h_m_sizes, .inl (cI, m_sizes_n, .inl m_sizes)), (h_m_ranks, .inl (cI, m_ranks_n, .inl m_ranks)), (h_m_elements, .inl (cI, m_elements_n, .inl m_elements)), (h_m_order, .inl (cI, m_order_n, .inl m_order))] U.heap ∧ va_K (dC, dI) cl_all [(cI, .int), (cJ, .long), (cB, .byte), (cZ, .boolean), (cT, .object "BasisWalk$Table"), (cN, .object "BasisWalkModel$Num")] U ∧ NW U ∧ va_D (fun _ => True) [(h_m, .inr (6, [.ref h_m_one, .ref h_m_two, .ref h_m_three, .ref h_m_four, .ref h_m_five, .ref h_m_six, .ref h_m_seven, .ref h_m_eight, .ref h_m_work, .ref h_m_small, .int m_rows, .int m_columns, .int m_prime, .ref h_m_pivots, .ref h_m_freeRows, .ref h_m_freeColumns, .ref h_m_minor, .ref h_m_smallMinor, .ref h_m_fields, .ref h_m_rowCounts, .ref h_m_elements, .ref h_m_numbers, .ref h_m_known, .ref h_m_ranks, .ref h_m_rankOf, .ref h_m_signOf, .ref h_m_order, .ref h_m_sizes, .ref h_m_coefficients, .ref h_m_choices, .ref h_m_sorted])), (h_m_rankOf, .inl (cB, m_rankOf_n, .inl m_rankOf)), (h_m_sizes, .inl (cI, m_sizes_n, .inl m_sizes)), (h_m_ranks, .inl (cI, m_ranks_n, .inl m_ranks)), (h_m_elements, .inl (cI, m_elements_n, .inl m_elements)), (h_m_order, .inl (cI, m_order_n, .inl m_order))])) (va_Qi (fun (v : Int32) (_ : Unit) => v = r) (fun (u : Unit) (t : State) => va_P (dC, dI) cl_all [(h_m, .inr (6, [.ref h_m_one, .ref h_m_two, .ref h_m_three, .ref h_m_four, .ref h_m_five, .ref h_m_six, .ref h_m_seven, .ref h_m_eight, .ref h_m_work, .ref h_m_small, .int m_rows, .int m_columns, .int m_prime, .ref h_m_pivots, .ref h_m_freeRows, .ref h_m_freeColumns, .ref h_m_minor, .ref h_m_smallMinor, .ref h_m_fields, .ref h_m_rowCounts, .ref h_m_elements, .ref h_m_numbers, .ref h_m_known, .ref h_m_ranks, .ref h_m_rankOf, .ref h_m_signOf, .ref h_m_order, .ref h_m_sizes, .ref h_m_coefficients, .ref h_m_choices, .ref h_m_sorted])), (h_m_rankOf, .inl (cB, m_rankOf_n, .inl m_rankOf)), (h_m_sizes, .inl (cI, m_sizes_n, .inl m_sizes)), (h_m_ranks, .inl (cI, m_ranks_n, .inl m_ranks)), (h_m_elements, .inl (cI, m_elements_n, .inl m_elements)), (h_m_order, .inl (cI, m_order_n, .inl m_order))] t.heap ∧ va_K (dC, dI) cl_all [(cI, .int), (cJ, .long), (cB, .byte), (cZ, .boolean), (cT, .object "BasisWalk$Table"), (cN, .object "BasisWalkModel$Num")] t ∧ va_D (va_A [(h_m, .inr (6, [.ref h_m_one, .ref h_m_two, .ref h_m_three, .ref h_m_four, .ref h_m_five, .ref h_m_six, .ref h_m_seven, .ref h_m_eight, .ref h_m_work, .ref h_m_small, .int m_rows, .int m_columns, .int m_prime, .ref h_m_pivots, .ref h_m_freeRows, .ref h_m_freeColumns, .ref h_m_minor, .ref h_m_smallMinor, .ref h_m_fields, .ref h_m_rowCounts, .ref h_m_elements, .ref h_m_numbers, .ref h_m_known, .ref h_m_ranks, .ref h_m_rankOf, .ref h_m_signOf, .ref h_m_order, .ref h_m_sizes, .ref h_m_coefficients, .ref h_m_choices, .ref h_m_sorted])), (h_m_rankOf, .inl (cB, m_rankOf_n, .inl m_rankOf)), (h_m_sizes, .inl (cI, m_sizes_n, .inl m_sizes)), (h_m_ranks, .inl (cI, m_ranks_n, .inl m_ranks)), (h_m_elements, .inl (cI, m_elements_n, .inl m_elements)), (h_m_order, .inl (cI, m_order_n, .inl m_order))] sz) [(h_m, .inr (6, [.ref h_m_one, .ref h_m_two, .ref h_m_three, .ref h_m_four, .ref h_m_five, .ref h_m_six, .ref h_m_seven, .ref h_m_eight, .ref h_m_work, .ref h_m_small, .int m_rows, .int m_columns, .int m_prime, .ref h_m_pivots, .ref h_m_freeRows, .ref h_m_freeColumns, .ref h_m_minor, .ref h_m_smallMinor, .ref h_m_fields, .ref h_m_rowCounts, .ref h_m_elements, .ref h_m_numbers, .ref h_m_known, .ref h_m_ranks, .ref h_m_rankOf, .ref h_m_signOf, .ref h_m_order, .ref h_m_sizes, .ref h_m_coefficients, .ref h_m_choices, .ref h_m_sorted])), (h_m_rankOf, .inl (cB, m_rankOf_n, .inl m_rankOf)), (h_m_sizes, .inl (cI, m_sizes_n, .inl m_sizes)), (h_m_ranks, .inl (cI, m_ranks_n, .inl m_ranks)), (h_m_elements, .inl (cI, m_elements_n, .inl m_elements)), (h_m_order, .inl (cI, m_order_n, .inl m_order))]) (va_A [(h_m, .inr (6, [.ref h_m_one, .ref h_m_two, .ref h_m_three, .ref h_m_four, .ref h_m_five, .ref h_m_six, .ref h_m_seven, .ref h_m_eight, .ref h_m_work, .ref h_m_small, .int m_rows, .int m_columns, .int m_prime, .ref h_m_pivots, .ref h_m_freeRows, .ref h_m_freeColumns, .ref h_m_minor, .ref h_m_smallMinor, .ref h_m_fields, .ref h_m_rowCounts, .ref h_m_elements, .ref h_m_numbers, .ref h_m_known, .ref h_m_ranks, .ref h_m_rankOf, .ref h_m_signOf, .ref h_m_order, .ref h_m_sizes, .ref h_m_coefficients, .ref h_m_choices, .ref h_m_sorted])), (h_m_rankOf, .inl (cB, m_rankOf_n, .inl m_rankOf)), (h_m_sizes, .inl (cI, m_sizes_n, .inl m_sizes)), (h_m_ranks, .inl (cI, m_ranks_n, .inl m_ranks)), (h_m_elements, .inl (cI, m_elements_n, .inl m_elements)), (h_m_order, .inl (cI, m_order_n, .inl m_order))] sz)) 0 0 (va_A [(h_m, .inr (6, [.ref h_m_one, .ref h_m_two, .ref h_m_three, .ref h_m_four, .ref h_m_five, .ref h_m_six, .ref h_m_seven, .ref h_m_eight, .ref h_m_work, .ref h_m_small, .int m_rows, .int m_columns, .int m_prime, .ref h_m_pivots, .ref h_m_freeRows, .ref h_m_freeColumns, .ref h_m_minor, .ref h_m_smallMinor, .ref h_m_fields, .ref h_m_rowCounts, .ref h_m_elements, .ref h_m_numbers, .ref h_m_known, .ref h_m_ranks, .ref h_m_rankOf, .ref h_m_signOf, .ref h_m_order, .ref h_m_sizes, .ref h_m_coefficients, .ref h_m_choices, .ref h_m_sorted])), (h_m_rankOf, .inl (cB, m_rankOf_n, .inl m_rankOf)), (h_m_sizes, .inl (cI, m_sizes_n, .inl m_sizes)), (h_m_ranks, .inl (cI, m_ranks_n, .inl m_ranks)), (h_m_elements, .inl (cI, m_elements_n, .inl m_elements)), (h_m_order, .inl (cI, m_order_n, .inl m_order))] sz) := by
  refine Met.ofW (cc := prog_7_method_34_code) (maxL := 6) (ret := (Option.some Jvm.ClassFile.FieldType.int)) (by decide) rfl ?_
  intro p e s m args below meth c s₁ B hml hv
  obtain ⟨hAR, hsz, hP, hK, hN, hD0⟩ := hv
  have hx := B.exec
  have hb := B.bytes
  have hr := B.returns
  have hts := atoms_spec (ws := w_Mo_theOne) B.pre
  have hown : s.vm.findClass "BasisWalkModel" = some m.cls := findClass_of_methodNamed B.named
  have hlocks := B.notSynchronized
  clear B
  subst hsz
  have hD := hD0.self (sz := s.heap.size)
  generalize hAe : va_A [(h_m, .inr (6, [.ref h_m_one, .ref h_m_two, .ref h_m_three, .ref h_m_four, .ref h_m_five, .ref h_m_six, .ref h_m_seven, .ref h_m_eight, .ref h_m_work, .ref h_m_small, .int m_rows, .int m_columns, .int m_prime, .ref h_m_pivots, .ref h_m_freeRows, .ref h_m_freeColumns, .ref h_m_minor, .ref h_m_smallMinor, .ref h_m_fields, .ref h_m_rowCounts, .ref h_m_elements, .ref h_m_numbers, .ref h_m_known, .ref h_m_ranks, .ref h_m_rankOf, .ref h_m_signOf, .ref h_m_order, .ref h_m_sizes, .ref h_m_coefficients, .ref h_m_choices, .ref h_m_sorted])), (h_m_rankOf, .inl (cB, m_rankOf_n, .inl m_rankOf)), (h_m_sizes, .inl (cI, m_sizes_n, .inl m_sizes)), (h_m_ranks, .inl (cI, m_ranks_n, .inl m_ranks)), (h_m_elements, .inl (cI, m_elements_n, .inl m_elements)), (h_m_order, .inl (cI, m_order_n, .inl m_order))] s.heap.size = A at hD ⊢
  have hA : ∀ q : Nat, s.heap.size ≤ q → A q := fun q h => by rw [← hAe]; exact Or.inr h
  clear hAe hD0
  have hS : va_S A s.heap s.heap [] := va_S.rf
  have hl := lv_entry ([.ref h_m, .int k0, .int kind0, .int i0]) (n := 6) (Nat.le_of_ble_eq_true rfl)
  subst hAR
  rw [lg_entry_eq]
  generalize (lg_sl ([.ref h_m, .int k0, .int kind0, .int i0]) ++ List.replicate (6 - (lg_sl ([.ref h_m, .int k0, .int kind0, .int i0])).length) Slot.unset).toArray = ls at hl ⊢
  have hl : lv_has ls 6 [(0, .ref h_m), (1, .int k0), (2, .int kind0), (3, .int i0)] := hl
  change W p l e ({ frames := 4, cells := 0, slots := 0, locals := 93 } : Room) s m _ below meth c s.heap [] 0 0 _ _
  generalize hARe : ([.ref h_m, .int k0, .int kind0, .int i0] : List Value).toArray = AR at hts ⊢
  clear hARe
  generalize hQ : MQ below _ AR s 0 0 A = QQ
  have fl0 := hts _ (List.mem_cons_of_mem _ tw_381)
  have iw1 := (fun w hw => List.mem_cons_of_mem _ (in_Mo w hw) : ∀ w ∈ u_ws "BasisWalkModel" T_Mo 31, w ∈ w_Mo_theOne)
  obtain ⟨H, hHe⟩ : ∃ H : Heap, H = s.heap := ⟨_, rfl⟩
  rw [← hHe] at hP ⊢
  replace hS : va_S A s.heap H [] := by rw [hHe]; exact va_S.rf
  clear hHe
  unfold f_R_theOne at h
  refine lv_iconst (v := 0) hx hb d_Mo_theOne_0 (by decide) ?_
  refine lv_istore (lv' := [(4, .int 0), (0, .ref h_m), (1, .int k0), (2, .int kind0), (3, .int i0)]) hx hb d_Mo_theOne_1 hl (by decide) rfl (fun ls hl => ?_)
  refine lv_iconst (v := 0) hx hb d_Mo_theOne_3 (by decide) ?_
  refine lv_istore (lv' := [(5, .int 0), (4, .int 0), (0, .ref h_m), (1, .int k0), (2, .int kind0), (3, .int i0)]) hx hb d_Mo_theOne_4 hl (by decide) rfl (fun ls hl => ?_)
  refine lo2_W (r := r) (fun (v5_1 : Int32) (v4_2 : Int32) => ∀ (H : Heap) (locs : List Loc), va_P (dC, dI) cl_all [(h_m, .inr (6, [.ref h_m_one, .ref h_m_two, .ref h_m_three, .ref h_m_four, .ref h_m_five, .ref h_m_six, .ref h_m_seven, .ref h_m_eight, .ref h_m_work, .ref h_m_small, .int m_rows, .int m_columns, .int m_prime, .ref h_m_pivots, .ref h_m_freeRows, .ref h_m_freeColumns, .ref h_m_minor, .ref h_m_smallMinor, .ref h_m_fields, .ref h_m_rowCounts, .ref h_m_elements, .ref h_m_numbers, .ref h_m_known, .ref h_m_ranks, .ref h_m_rankOf, .ref h_m_signOf, .ref h_m_order, .ref h_m_sizes, .ref h_m_coefficients, .ref h_m_choices, .ref h_m_sorted])), (h_m_rankOf, .inl (cB, m_rankOf_n, .inl m_rankOf)), (h_m_sizes, .inl (cI, m_sizes_n, .inl m_sizes)), (h_m_ranks, .inl (cI, m_ranks_n, .inl m_ranks)), (h_m_elements, .inl (cI, m_elements_n, .inl m_elements)), (h_m_order, .inl (cI, m_order_n, .inl m_order))] H → va_D A [(h_m, .inr (6, [.ref h_m_one, .ref h_m_two, .ref h_m_three, .ref h_m_four, .ref h_m_five, .ref h_m_six, .ref h_m_seven, .ref h_m_eight, .ref h_m_work, .ref h_m_small, .int m_rows, .int m_columns, .int m_prime, .ref h_m_pivots, .ref h_m_freeRows, .ref h_m_freeColumns, .ref h_m_minor, .ref h_m_smallMinor, .ref h_m_fields, .ref h_m_rowCounts, .ref h_m_elements, .ref h_m_numbers, .ref h_m_known, .ref h_m_ranks, .ref h_m_rankOf, .ref h_m_signOf, .ref h_m_order, .ref h_m_sizes, .ref h_m_coefficients, .ref h_m_choices, .ref h_m_sorted])), (h_m_rankOf, .inl (cB, m_rankOf_n, .inl m_rankOf)), (h_m_sizes, .inl (cI, m_sizes_n, .inl m_sizes)), (h_m_ranks, .inl (cI, m_ranks_n, .inl m_ranks)), (h_m_elements, .inl (cI, m_elements_n, .inl m_elements)), (h_m_order, .inl (cI, m_order_n, .inl m_order))] → va_S A s.heap H locs → ∀ ls : Array Slot, lv_has ls 6 [(0, .ref h_m), (1, .int k0), (2, .int kind0), (3, .int i0), (4, .int v4_2), (5, .int v5_1)] → W p l e ({ frames := 4, cells := 0, slots := 0, locals := 93 } : Room) s m AR below meth c H locs 0 0 QQ (F0 m 6 ls [])) ?_ _ _ _ h _ _ hP hD hS _ (lv_sub hl [2, 3, 4, 5, 1, 0] rfl)
  intro k_6 v5_1 v4_2 J_6 h H locs hP hD hS ls hl
  refine lv_iload hx hb d_Mo_theOne_6 (lv_at hl 5 rfl) ?_
  refine lv_sipush (v := 4096) hx hb d_Mo_theOne_8 (by decide) ?_
  refine lv_icmp_ge (tgt := 72) hx hb d_Mo_theOne_11 (by decide) (fun c_3 => ?_) (fun c_3 => ?_)
  · replace h := ck_if_t h c_3
    refine lv_iconst (v := (-1)) hx hb d_Mo_theOne_72 (by decide) ?_
    obtain rfl := Option.some.inj h
    subst hQ
    exact W.iret (v := (-1)) hx hb hr (fun t ht hW => ⟨⟨(-1), (), rfl, rfl, by rw [ht]; exact hP, va_K.moved hW.alike hK, hD⟩, hS.F ht⟩) hS.2.2 d_Mo_theOne_73
  · replace h := ck_if_f h c_3
    refine lv_iload_n hx hb d_Mo_theOne_14 rfl (lv_at hl 3 rfl) ?_
    refine lv_if_lt (tgt := 72) hx hb d_Mo_theOne_15 (by decide) (fun c_4 => ?_) (fun c_4 => ?_)
    · replace h := ck_if_t h c_4
      refine lv_iconst (v := (-1)) hx hb d_Mo_theOne_72 (by decide) ?_
      obtain rfl := Option.some.inj h
      subst hQ
      exact W.iret (v := (-1)) hx hb hr (fun t ht hW => ⟨⟨(-1), (), rfl, rfl, by rw [ht]; exact hP, va_K.moved hW.alike hK, hD⟩, hS.F ht⟩) hS.2.2 d_Mo_theOne_73
    · replace h := ck_if_f h c_4
      refine lv_aload_n hx hb d_Mo_theOne_18 rfl (lv_at hl 0 rfl) ?_
      refine va_get (D := (dC, dI)) (ci := 6) (v := .ref h_m_order) (C := "BasisWalkModel") (T := T_Mo) (N := 31) hx hb hts iw1 hown hK hP 0 rfl rfl 26 (by decide) fl0 (fun _ h9 => h9) rfl d_Mo_theOne_19 ?_
      refine lv_iload hx hb d_Mo_theOne_22 (lv_at hl 5 rfl) ?_
      obtain ⟨g_5, h⟩ := ck_in_s h
      refine va_iald hx hb hK hP 5 0 rfl rfl g_5 d_Mo_theOne_24 ?_
      refine lv_aload_n hx hb d_Mo_theOne_25 rfl (lv_at hl 0 rfl) ?_
      refine lv_iload_n hx hb d_Mo_theOne_26 rfl (lv_at hl 1 rfl) ?_
      obtain ⟨r_6, hc_7, h⟩ := ck_b1_s h
      have hPc := hP.sub (ws' := [(h_m, .inr (6, [.ref h_m_one, .ref h_m_two, .ref h_m_three, .ref h_m_four, .ref h_m_five, .ref h_m_six, .ref h_m_seven, .ref h_m_eight, .ref h_m_work, .ref h_m_small, .int m_rows, .int m_columns, .int m_prime, .ref h_m_pivots, .ref h_m_freeRows, .ref h_m_freeColumns, .ref h_m_minor, .ref h_m_smallMinor, .ref h_m_fields, .ref h_m_rowCounts, .ref h_m_elements, .ref h_m_numbers, .ref h_m_known, .ref h_m_ranks, .ref h_m_rankOf, .ref h_m_signOf, .ref h_m_order, .ref h_m_sizes, .ref h_m_coefficients, .ref h_m_choices, .ref h_m_sorted])), (h_m_elements, .inl (cI, m_elements_n, .inl m_elements))]) [0, 4] rfl
      have hDc := hD.sub (ws' := [(h_m, .inr (6, [.ref h_m_one, .ref h_m_two, .ref h_m_three, .ref h_m_four, .ref h_m_five, .ref h_m_six, .ref h_m_seven, .ref h_m_eight, .ref h_m_work, .ref h_m_small, .int m_rows, .int m_columns, .int m_prime, .ref h_m_pivots, .ref h_m_freeRows, .ref h_m_freeColumns, .ref h_m_minor, .ref h_m_smallMinor, .ref h_m_fields, .ref h_m_rowCounts, .ref h_m_elements, .ref h_m_numbers, .ref h_m_known, .ref h_m_ranks, .ref h_m_rankOf, .ref h_m_signOf, .ref h_m_order, .ref h_m_sizes, .ref h_m_coefficients, .ref h_m_choices, .ref h_m_sorted])), (h_m_elements, .inl (cI, m_elements_n, .inl m_elements))]) [0, 4] (by decide) rfl
      have hFc := va_free (wc := [(h_m, .inr (6, [.ref h_m_one, .ref h_m_two, .ref h_m_three, .ref h_m_four, .ref h_m_five, .ref h_m_six, .ref h_m_seven, .ref h_m_eight, .ref h_m_work, .ref h_m_small, .int m_rows, .int m_columns, .int m_prime, .ref h_m_pivots, .ref h_m_freeRows, .ref h_m_freeColumns, .ref h_m_minor, .ref h_m_smallMinor, .ref h_m_fields, .ref h_m_rowCounts, .ref h_m_elements, .ref h_m_numbers, .ref h_m_known, .ref h_m_ranks, .ref h_m_rankOf, .ref h_m_signOf, .ref h_m_order, .ref h_m_sizes, .ref h_m_coefficients, .ref h_m_choices, .ref h_m_sorted])), (h_m_elements, .inl (cI, m_elements_n, .inl m_elements))]) hD hS hA [0, 4] rfl
      refine va_calli (va_runV (As := [.int k0]) (rest := [.int (m_order v5_1.toNatClampNeg)]) ⟨hx, hb, hml, hown, hts⟩ (c_R_whole l dC dI cI cJ cB cZ cT cN H.size h_m h_m_one h_m_two h_m_three h_m_four h_m_five h_m_six h_m_seven h_m_eight h_m_work h_m_small h_m_pivots h_m_freeRows h_m_freeColumns h_m_minor h_m_smallMinor h_m_fields h_m_rowCounts h_m_elements h_m_numbers h_m_known h_m_ranks h_m_rankOf h_m_signOf h_m_order h_m_sizes h_m_coefficients h_m_choices h_m_sorted m_rows m_columns m_prime m_elements_n m_elements k0 _ hc_7) (cwV 1 hts (tb_V tw_598 tw_600 tp_34 tw_6 tw_601) rfl rfl rfl (by decide +kernel) ⟨Nat.le_of_ble_eq_true rfl, Nat.le_of_ble_eq_true rfl⟩) ⟨fun a U g mk q => by obtain ⟨q0, q1, qP, qK, qN, qD⟩ := q; exact ⟨q0, q1, qP, va_K.moved (u := U) (U := U.calling g mk a) (Vm.Alike.refl U.vm) qK, qN.same rfl, qD⟩, va_recv hK hPc (ci := 6) (q0 := 0) rfl rfl, fun U hU hW => ⟨rfl, by rw [hU], by rw [hU]; exact hPc, va_K.moved hW.alike hK, hN.warm hW, hDc.weaken (fun _ _ _ _ => trivial)⟩⟩ rfl rfl hl.1 rfl (lv_room (Nat.le_of_ble_eq_true rfl)) d_Mo_theOne_27 ⟨Nat.zero_le _, Nat.zero_le _⟩) hS (fun q _ h => hFc q h) hFc (fun rr u t H1 locs ht hvm hw hB hz1 hk1 hS => ?_)
      replace hw := hw.symm
      subst hw
      obtain ⟨hP1, -, hD1⟩ := hB
      rw [ht] at hP1
      obtain ⟨hP, hD⟩ := va_join (wr := [(h_m_rankOf, .inl (cB, m_rankOf_n, .inl m_rankOf)), (h_m_sizes, .inl (cI, m_sizes_n, .inl m_sizes)), (h_m_ranks, .inl (cI, m_ranks_n, .inl m_ranks)), (h_m_order, .inl (cI, m_order_n, .inl m_order))]) (w1 := [(h_m, .inr (6, [.ref h_m_one, .ref h_m_two, .ref h_m_three, .ref h_m_four, .ref h_m_five, .ref h_m_six, .ref h_m_seven, .ref h_m_eight, .ref h_m_work, .ref h_m_small, .int m_rows, .int m_columns, .int m_prime, .ref h_m_pivots, .ref h_m_freeRows, .ref h_m_freeColumns, .ref h_m_minor, .ref h_m_smallMinor, .ref h_m_fields, .ref h_m_rowCounts, .ref h_m_elements, .ref h_m_numbers, .ref h_m_known, .ref h_m_ranks, .ref h_m_rankOf, .ref h_m_signOf, .ref h_m_order, .ref h_m_sizes, .ref h_m_coefficients, .ref h_m_choices, .ref h_m_sorted])), (h_m_elements, .inl (cI, m_elements_n, .inl m_elements))]) hP hD [0, 4] [1, 2, 3, 5] rfl rfl (by decide) (by decide) hk1 hFc hP1 hD1
      generalize H1 = H at hP hS ⊢
      have hP : va_P (dC, dI) cl_all [(h_m, .inr (6, [.ref h_m_one, .ref h_m_two, .ref h_m_three, .ref h_m_four, .ref h_m_five, .ref h_m_six, .ref h_m_seven, .ref h_m_eight, .ref h_m_work, .ref h_m_small, .int m_rows, .int m_columns, .int m_prime, .ref h_m_pivots, .ref h_m_freeRows, .ref h_m_freeColumns, .ref h_m_minor, .ref h_m_smallMinor, .ref h_m_fields, .ref h_m_rowCounts, .ref h_m_elements, .ref h_m_numbers, .ref h_m_known, .ref h_m_ranks, .ref h_m_rankOf, .ref h_m_signOf, .ref h_m_order, .ref h_m_sizes, .ref h_m_coefficients, .ref h_m_choices, .ref h_m_sorted])), (h_m_rankOf, .inl (cB, m_rankOf_n, .inl m_rankOf)), (h_m_sizes, .inl (cI, m_sizes_n, .inl m_sizes)), (h_m_ranks, .inl (cI, m_ranks_n, .inl m_ranks)), (h_m_elements, .inl (cI, m_elements_n, .inl m_elements)), (h_m_order, .inl (cI, m_order_n, .inl m_order))] H := hP.sub [4, 0, 1, 2, 5, 3] rfl
      have hD : va_D A [(h_m, .inr (6, [.ref h_m_one, .ref h_m_two, .ref h_m_three, .ref h_m_four, .ref h_m_five, .ref h_m_six, .ref h_m_seven, .ref h_m_eight, .ref h_m_work, .ref h_m_small, .int m_rows, .int m_columns, .int m_prime, .ref h_m_pivots, .ref h_m_freeRows, .ref h_m_freeColumns, .ref h_m_minor, .ref h_m_smallMinor, .ref h_m_fields, .ref h_m_rowCounts, .ref h_m_elements, .ref h_m_numbers, .ref h_m_known, .ref h_m_ranks, .ref h_m_rankOf, .ref h_m_signOf, .ref h_m_order, .ref h_m_sizes, .ref h_m_coefficients, .ref h_m_choices, .ref h_m_sorted])), (h_m_rankOf, .inl (cB, m_rankOf_n, .inl m_rankOf)), (h_m_sizes, .inl (cI, m_sizes_n, .inl m_sizes)), (h_m_ranks, .inl (cI, m_ranks_n, .inl m_ranks)), (h_m_elements, .inl (cI, m_elements_n, .inl m_elements)), (h_m_order, .inl (cI, m_order_n, .inl m_order))] := hD.sub [4, 0, 1, 2, 5, 3] (by decide) rfl
      refine ck_jn_W h (fun k' => ∀ (v4_8 : Int32), k' v4_8 = some r → ∀ (H : Heap) (locs : List Loc), va_P (dC, dI) cl_all [(h_m, .inr (6, [.ref h_m_one, .ref h_m_two, .ref h_m_three, .ref h_m_four, .ref h_m_five, .ref h_m_six, .ref h_m_seven, .ref h_m_eight, .ref h_m_work, .ref h_m_small, .int m_rows, .int m_columns, .int m_prime, .ref h_m_pivots, .ref h_m_freeRows, .ref h_m_freeColumns, .ref h_m_minor, .ref h_m_smallMinor, .ref h_m_fields, .ref h_m_rowCounts, .ref h_m_elements, .ref h_m_numbers, .ref h_m_known, .ref h_m_ranks, .ref h_m_rankOf, .ref h_m_signOf, .ref h_m_order, .ref h_m_sizes, .ref h_m_coefficients, .ref h_m_choices, .ref h_m_sorted])), (h_m_rankOf, .inl (cB, m_rankOf_n, .inl m_rankOf)), (h_m_sizes, .inl (cI, m_sizes_n, .inl m_sizes)), (h_m_ranks, .inl (cI, m_ranks_n, .inl m_ranks)), (h_m_elements, .inl (cI, m_elements_n, .inl m_elements)), (h_m_order, .inl (cI, m_order_n, .inl m_order))] H → va_D A [(h_m, .inr (6, [.ref h_m_one, .ref h_m_two, .ref h_m_three, .ref h_m_four, .ref h_m_five, .ref h_m_six, .ref h_m_seven, .ref h_m_eight, .ref h_m_work, .ref h_m_small, .int m_rows, .int m_columns, .int m_prime, .ref h_m_pivots, .ref h_m_freeRows, .ref h_m_freeColumns, .ref h_m_minor, .ref h_m_smallMinor, .ref h_m_fields, .ref h_m_rowCounts, .ref h_m_elements, .ref h_m_numbers, .ref h_m_known, .ref h_m_ranks, .ref h_m_rankOf, .ref h_m_signOf, .ref h_m_order, .ref h_m_sizes, .ref h_m_coefficients, .ref h_m_choices, .ref h_m_sorted])), (h_m_rankOf, .inl (cB, m_rankOf_n, .inl m_rankOf)), (h_m_sizes, .inl (cI, m_sizes_n, .inl m_sizes)), (h_m_ranks, .inl (cI, m_ranks_n, .inl m_ranks)), (h_m_elements, .inl (cI, m_elements_n, .inl m_elements)), (h_m_order, .inl (cI, m_order_n, .inl m_order))] → va_S A s.heap H locs → ∀ ls : Array Slot, lv_has ls 6 [(0, .ref h_m), (1, .int k0), (2, .int kind0), (3, .int i0), (4, .int v4_8), (5, .int v5_1)] → W p l e ({ frames := 4, cells := 0, slots := 0, locals := 93 } : Room) s m AR below meth c H locs 0 0 QQ (F0 m 66 ls [])) ?_ ?_
      · intro v4_8 h H locs hP hD hS ls hl
        obtain ⟨x_9, ex_9⟩ : ∃ y : Int32, y = v5_1 + 1 := ⟨_, rfl⟩
        replace h := ck_nm_s h ex_9
        refine lv_iinc (v := x_9) (lv' := [(5, .int x_9), (0, .ref h_m), (1, .int k0), (2, .int kind0), (3, .int i0), (4, .int v4_8)]) hx hb d_Mo_theOne_66 hl (k := 5) rfl (by rw [ex_9]; rfl) (by decide) rfl (fun ls hl => ?_)
        refine lv_goto (tgt := 6) hx hb d_Mo_theOne_69 (by decide) ?_
        exact J_6 _ _ h _ _ hP hD hS _ (lv_sub hl [1, 2, 3, 4, 5, 0] rfl)
      · intro k_66 J_66 h
        refine lv_icmp_gt (tgt := 66) hx hb d_Mo_theOne_30 (by decide) (fun c_10 => ?_) (fun c_10 => ?_)
        · replace h := ck_if_t h c_10
          exact J_66 _ h _ _ hP hD hS _ (lv_sub hl [0, 1, 2, 3, 4, 5] rfl)
        · replace h := ck_if_f h c_10
          refine lv_aload_n hx hb d_Mo_theOne_33 rfl (lv_at hl 0 rfl) ?_
          refine lv_iload_n hx hb d_Mo_theOne_34 rfl (lv_at hl 1 rfl) ?_
          refine lv_iload_n hx hb d_Mo_theOne_35 rfl (lv_at hl 2 rfl) ?_
          refine lv_aload_n hx hb d_Mo_theOne_36 rfl (lv_at hl 0 rfl) ?_
          refine va_get (D := (dC, dI)) (ci := 6) (v := .ref h_m_order) (C := "BasisWalkModel") (T := T_Mo) (N := 31) hx hb hts iw1 hown hK hP 0 rfl rfl 26 (by decide) fl0 (fun _ h9 => h9) rfl d_Mo_theOne_37 ?_
          refine lv_iload hx hb d_Mo_theOne_40 (lv_at hl 5 rfl) ?_
          obtain ⟨g_11, h⟩ := ck_in_s h
          refine va_iald hx hb hK hP 5 0 rfl rfl g_11 d_Mo_theOne_42 ?_
          obtain ⟨r_12, hc_13, h⟩ := ck_b1_s h
          have hPc := hP.sub (ws' := [(h_m, .inr (6, [.ref h_m_one, .ref h_m_two, .ref h_m_three, .ref h_m_four, .ref h_m_five, .ref h_m_six, .ref h_m_seven, .ref h_m_eight, .ref h_m_work, .ref h_m_small, .int m_rows, .int m_columns, .int m_prime, .ref h_m_pivots, .ref h_m_freeRows, .ref h_m_freeColumns, .ref h_m_minor, .ref h_m_smallMinor, .ref h_m_fields, .ref h_m_rowCounts, .ref h_m_elements, .ref h_m_numbers, .ref h_m_known, .ref h_m_ranks, .ref h_m_rankOf, .ref h_m_signOf, .ref h_m_order, .ref h_m_sizes, .ref h_m_coefficients, .ref h_m_choices, .ref h_m_sorted])), (h_m_rankOf, .inl (cB, m_rankOf_n, .inl m_rankOf)), (h_m_sizes, .inl (cI, m_sizes_n, .inl m_sizes)), (h_m_ranks, .inl (cI, m_ranks_n, .inl m_ranks)), (h_m_elements, .inl (cI, m_elements_n, .inl m_elements))]) [0, 1, 2, 3, 4] rfl
          have hDc := hD.sub (ws' := [(h_m, .inr (6, [.ref h_m_one, .ref h_m_two, .ref h_m_three, .ref h_m_four, .ref h_m_five, .ref h_m_six, .ref h_m_seven, .ref h_m_eight, .ref h_m_work, .ref h_m_small, .int m_rows, .int m_columns, .int m_prime, .ref h_m_pivots, .ref h_m_freeRows, .ref h_m_freeColumns, .ref h_m_minor, .ref h_m_smallMinor, .ref h_m_fields, .ref h_m_rowCounts, .ref h_m_elements, .ref h_m_numbers, .ref h_m_known, .ref h_m_ranks, .ref h_m_rankOf, .ref h_m_signOf, .ref h_m_order, .ref h_m_sizes, .ref h_m_coefficients, .ref h_m_choices, .ref h_m_sorted])), (h_m_rankOf, .inl (cB, m_rankOf_n, .inl m_rankOf)), (h_m_sizes, .inl (cI, m_sizes_n, .inl m_sizes)), (h_m_ranks, .inl (cI, m_ranks_n, .inl m_ranks)), (h_m_elements, .inl (cI, m_elements_n, .inl m_elements))]) [0, 1, 2, 3, 4] (by decide) rfl
          have hFc := va_free (wc := [(h_m, .inr (6, [.ref h_m_one, .ref h_m_two, .ref h_m_three, .ref h_m_four, .ref h_m_five, .ref h_m_six, .ref h_m_seven, .ref h_m_eight, .ref h_m_work, .ref h_m_small, .int m_rows, .int m_columns, .int m_prime, .ref h_m_pivots, .ref h_m_freeRows, .ref h_m_freeColumns, .ref h_m_minor, .ref h_m_smallMinor, .ref h_m_fields, .ref h_m_rowCounts, .ref h_m_elements, .ref h_m_numbers, .ref h_m_known, .ref h_m_ranks, .ref h_m_rankOf, .ref h_m_signOf, .ref h_m_order, .ref h_m_sizes, .ref h_m_coefficients, .ref h_m_choices, .ref h_m_sorted])), (h_m_rankOf, .inl (cB, m_rankOf_n, .inl m_rankOf)), (h_m_sizes, .inl (cI, m_sizes_n, .inl m_sizes)), (h_m_ranks, .inl (cI, m_ranks_n, .inl m_ranks)), (h_m_elements, .inl (cI, m_elements_n, .inl m_elements))]) hD hS hA [0, 1, 2, 3, 4] rfl
          refine va_calli (va_runV (As := [.int k0, .int kind0, .int (m_order v5_1.toNatClampNeg)]) (rest := []) ⟨hx, hb, hml, hown, hts⟩ (c_R_isOf l dC dI cI cJ cB cZ cT cN H.size h_m h_m_one h_m_two h_m_three h_m_four h_m_five h_m_six h_m_seven h_m_eight h_m_work h_m_small h_m_pivots h_m_freeRows h_m_freeColumns h_m_minor h_m_smallMinor h_m_fields h_m_rowCounts h_m_elements h_m_numbers h_m_known h_m_ranks h_m_rankOf h_m_signOf h_m_order h_m_sizes h_m_coefficients h_m_choices h_m_sorted m_rows m_columns m_prime m_rankOf_n m_rankOf m_sizes_n m_sizes m_ranks_n m_ranks m_elements_n m_elements k0 kind0 (m_order v5_1.toNatClampNeg) _ hc_13) (cwV 3 hts (tb_V tw_614 tw_616 tp_37 tw_6 tw_617) rfl rfl rfl (by decide +kernel) ⟨Nat.le_of_ble_eq_true rfl, Nat.le_of_ble_eq_true rfl⟩) ⟨fun a U g mk q => by obtain ⟨q0, q1, qP, qK, qN, qD⟩ := q; exact ⟨q0, q1, qP, va_K.moved (u := U) (U := U.calling g mk a) (Vm.Alike.refl U.vm) qK, qN.same rfl, qD⟩, va_recv hK hPc (ci := 6) (q0 := 0) rfl rfl, fun U hU hW => ⟨rfl, by rw [hU], by rw [hU]; exact hPc, va_K.moved hW.alike hK, hN.warm hW, hDc.weaken (fun _ _ _ _ => trivial)⟩⟩ rfl rfl hl.1 rfl (lv_room (Nat.le_of_ble_eq_true rfl)) d_Mo_theOne_43 ⟨Nat.zero_le _, Nat.zero_le _⟩) hS (fun q _ h => hFc q h) hFc (fun rr u t H1 locs ht hvm hw hB hz1 hk1 hS => ?_)
          replace hw := hw.symm
          subst hw
          obtain ⟨hP1, -, hD1⟩ := hB
          rw [ht] at hP1
          obtain ⟨hP, hD⟩ := va_join (wr := [(h_m_order, .inl (cI, m_order_n, .inl m_order))]) (w1 := [(h_m, .inr (6, [.ref h_m_one, .ref h_m_two, .ref h_m_three, .ref h_m_four, .ref h_m_five, .ref h_m_six, .ref h_m_seven, .ref h_m_eight, .ref h_m_work, .ref h_m_small, .int m_rows, .int m_columns, .int m_prime, .ref h_m_pivots, .ref h_m_freeRows, .ref h_m_freeColumns, .ref h_m_minor, .ref h_m_smallMinor, .ref h_m_fields, .ref h_m_rowCounts, .ref h_m_elements, .ref h_m_numbers, .ref h_m_known, .ref h_m_ranks, .ref h_m_rankOf, .ref h_m_signOf, .ref h_m_order, .ref h_m_sizes, .ref h_m_coefficients, .ref h_m_choices, .ref h_m_sorted])), (h_m_rankOf, .inl (cB, m_rankOf_n, .inl m_rankOf)), (h_m_sizes, .inl (cI, m_sizes_n, .inl m_sizes)), (h_m_ranks, .inl (cI, m_ranks_n, .inl m_ranks)), (h_m_elements, .inl (cI, m_elements_n, .inl m_elements))]) hP hD [0, 1, 2, 3, 4] [5] rfl rfl (by decide) (by decide) hk1 hFc hP1 hD1
          generalize H1 = H at hP hS ⊢
          have hP : va_P (dC, dI) cl_all [(h_m, .inr (6, [.ref h_m_one, .ref h_m_two, .ref h_m_three, .ref h_m_four, .ref h_m_five, .ref h_m_six, .ref h_m_seven, .ref h_m_eight, .ref h_m_work, .ref h_m_small, .int m_rows, .int m_columns, .int m_prime, .ref h_m_pivots, .ref h_m_freeRows, .ref h_m_freeColumns, .ref h_m_minor, .ref h_m_smallMinor, .ref h_m_fields, .ref h_m_rowCounts, .ref h_m_elements, .ref h_m_numbers, .ref h_m_known, .ref h_m_ranks, .ref h_m_rankOf, .ref h_m_signOf, .ref h_m_order, .ref h_m_sizes, .ref h_m_coefficients, .ref h_m_choices, .ref h_m_sorted])), (h_m_rankOf, .inl (cB, m_rankOf_n, .inl m_rankOf)), (h_m_sizes, .inl (cI, m_sizes_n, .inl m_sizes)), (h_m_ranks, .inl (cI, m_ranks_n, .inl m_ranks)), (h_m_elements, .inl (cI, m_elements_n, .inl m_elements)), (h_m_order, .inl (cI, m_order_n, .inl m_order))] H := hP.sub [1, 2, 3, 4, 5, 0] rfl
          have hD : va_D A [(h_m, .inr (6, [.ref h_m_one, .ref h_m_two, .ref h_m_three, .ref h_m_four, .ref h_m_five, .ref h_m_six, .ref h_m_seven, .ref h_m_eight, .ref h_m_work, .ref h_m_small, .int m_rows, .int m_columns, .int m_prime, .ref h_m_pivots, .ref h_m_freeRows, .ref h_m_freeColumns, .ref h_m_minor, .ref h_m_smallMinor, .ref h_m_fields, .ref h_m_rowCounts, .ref h_m_elements, .ref h_m_numbers, .ref h_m_known, .ref h_m_ranks, .ref h_m_rankOf, .ref h_m_signOf, .ref h_m_order, .ref h_m_sizes, .ref h_m_coefficients, .ref h_m_choices, .ref h_m_sorted])), (h_m_rankOf, .inl (cB, m_rankOf_n, .inl m_rankOf)), (h_m_sizes, .inl (cI, m_sizes_n, .inl m_sizes)), (h_m_ranks, .inl (cI, m_ranks_n, .inl m_ranks)), (h_m_elements, .inl (cI, m_elements_n, .inl m_elements)), (h_m_order, .inl (cI, m_order_n, .inl m_order))] := hD.sub [1, 2, 3, 4, 5, 0] (by decide) rfl
          refine lv_if_eq (tgt := 66) hx hb d_Mo_theOne_46 (by decide) (fun c_14 => ?_) (fun c_14 => ?_)
          · replace h := ck_if_t h c_14
            exact J_66 _ h _ _ hP hD hS _ (lv_sub hl [0, 1, 2, 3, 4, 5] rfl)
          · replace h := ck_if_f h c_14
            refine lv_iload hx hb d_Mo_theOne_49 (lv_at hl 4 rfl) ?_
            refine lv_iload_n hx hb d_Mo_theOne_51 rfl (lv_at hl 3 rfl) ?_
            refine lv_icmp_ne (tgt := 63) hx hb d_Mo_theOne_52 (by decide) (fun c_15 => ?_) (fun c_15 => ?_)
            · replace h := ck_if_f h c_15
              obtain ⟨x_16, ex_16⟩ : ∃ y : Int32, y = v4_2 + 1 := ⟨_, rfl⟩
              replace h := ck_nm_s h ex_16
              refine lv_iinc (v := x_16) (lv' := [(4, .int x_16), (0, .ref h_m), (1, .int k0), (2, .int kind0), (3, .int i0), (5, .int v5_1)]) hx hb d_Mo_theOne_63 hl (k := 4) rfl (by rw [ex_16]; rfl) (by decide) rfl (fun ls hl => ?_)
              exact J_66 _ h _ _ hP hD hS _ (lv_sub hl [1, 2, 3, 4, 0, 5] rfl)
            · replace h := ck_if_t h c_15
              refine lv_aload_n hx hb d_Mo_theOne_55 rfl (lv_at hl 0 rfl) ?_
              refine va_get (D := (dC, dI)) (ci := 6) (v := .ref h_m_order) (C := "BasisWalkModel") (T := T_Mo) (N := 31) hx hb hts iw1 hown hK hP 0 rfl rfl 26 (by decide) fl0 (fun _ h9 => h9) rfl d_Mo_theOne_56 ?_
              refine lv_iload hx hb d_Mo_theOne_59 (lv_at hl 5 rfl) ?_
              obtain ⟨g_17, h⟩ := ck_in_s h
              refine va_iald hx hb hK hP 5 0 rfl rfl g_17 d_Mo_theOne_61 ?_
              obtain rfl := Option.some.inj h
              subst hQ
              exact W.iret (v := (m_order v5_1.toNatClampNeg)) hx hb hr (fun t ht hW => ⟨⟨(m_order v5_1.toNatClampNeg), (), rfl, rfl, by rw [ht]; exact hP, va_K.moved hW.alike hK, hD⟩, hS.F ht⟩) hS.2.2 d_Mo_theOne_62
theorem d_Mo_columns_0 : decode prog_7_method_39_code 0 = .ok (.iload_n 1, 1) := by decide +kernel
theorem d_Mo_columns_1 : decode prog_7_method_39_code 1 = .ok (.invokestatic 199, 3) := by decide +kernel
theorem d_Mo_columns_4 : decode prog_7_method_39_code 4 = .ok (.ifCond .eq 12, 3) := by decide +kernel
theorem d_Mo_columns_7 : decode prog_7_method_39_code 7 = .ok (.aload_n 0, 1) := by decide +kernel
theorem d_Mo_columns_8 : decode prog_7_method_39_code 8 = .ok (.getfield 159, 3) := by decide +kernel
theorem d_Mo_columns_11 : decode prog_7_method_39_code 11 = .ok (.iload_n 1, 1) := by decide +kernel
theorem d_Mo_columns_12 : decode prog_7_method_39_code 12 = .ok (.iaload, 1) := by decide +kernel
theorem d_Mo_columns_13 : decode prog_7_method_39_code 13 = .ok (.goto 4, 3) := by decide +kernel
theorem d_Mo_columns_16 : decode prog_7_method_39_code 16 = .ok (.iconst (-1), 1) := by decide +kernel
theorem d_Mo_columns_17 : decode prog_7_method_39_code 17 = .ok (.ireturn, 1) := by decide +kernel
def f_R_columns (m_elements_n : Nat) (m_elements : Nat → Int32) (t0 : Int32) : Option (Int32) :=
  ck_b1 (f_R_isTable t0) <| fun r_1 => ck_if (r_1 = 0) (some (-1)) (ck_in t0 m_elements_n <| some (m_elements t0.toNatClampNeg))
set_option maxHeartbeats 4000000 in
set_option maxRecDepth 100000 in
theorem c_R_columns (l : Launch) (dC : Nat → ClassId) (dI : Nat → Nat → Nat) (cI cJ cB cZ cT cN : ClassId) (sz : Nat) (h_m : Nat) (h_m_one : Nat) (h_m_two : Nat) (h_m_three : Nat) (h_m_four : Nat) (h_m_five : Nat) (h_m_six : Nat) (h_m_seven : Nat) (h_m_eight : Nat) (h_m_work : Nat) (h_m_small : Nat) (h_m_pivots : Nat) (h_m_freeRows : Nat) (h_m_freeColumns : Nat) (h_m_minor : Nat) (h_m_smallMinor : Nat) (h_m_fields : Nat) (h_m_rowCounts : Nat) (h_m_elements : Nat) (h_m_numbers : Nat) (h_m_known : Nat) (h_m_ranks : Nat) (h_m_rankOf : Nat) (h_m_signOf : Nat) (h_m_order : Nat) (h_m_sizes : Nat) (h_m_coefficients : Nat) (h_m_choices : Nat) (h_m_sorted : Nat) (m_rows : Int32) (m_columns : Int32) (m_prime : Int32) (m_elements_n : Nat) (m_elements : Nat → Int32) (t0 : Int32) (r : Int32) (h : f_R_columns m_elements_n m_elements t0 = some r) : Met l y_Mo_columns w_Mo_columns ({ frames := 1, cells := 0, slots := 0, locals := 20 } : Room) (va_Pc [.ref h_m, .int t0] (fun U => U.heap.size = sz ∧ va_P (dC, dI) cl_all [(h_m, .inr (6, [.ref h_m_one, .ref h_m_two, .ref h_m_three, .ref h_m_four, .ref h_m_five, .ref h_m_six, .ref h_m_seven, .ref h_m_eight, .ref h_m_work, .ref h_m_small, .int m_rows, .int m_columns, .int m_prime, .ref h_m_pivots, .ref h_m_freeRows, .ref h_m_freeColumns, .ref h_m_minor, .ref h_m_smallMinor, .ref h_m_fields, .ref h_m_rowCounts, .ref h_m_elements, .ref h_m_numbers, .ref h_m_known, .ref h_m_ranks, .ref h_m_rankOf, .ref h_m_signOf, .ref h_m_order, .ref h_m_sizes, .ref h_m_coefficients, .ref h_m_choices, .ref h_m_sorted])), (h_m_elements, .inl (cI, m_elements_n, .inl m_elements))] U.heap ∧ va_K (dC, dI) cl_all [(cI, .int), (cJ, .long), (cB, .byte), (cZ, .boolean), (cT, .object "BasisWalk$Table"), (cN, .object "BasisWalkModel$Num")] U ∧ NW U ∧ va_D (fun _ => True) [(h_m, .inr (6, [.ref h_m_one, .ref h_m_two, .ref h_m_three, .ref h_m_four, .ref h_m_five, .ref h_m_six, .ref h_m_seven, .ref h_m_eight, .ref h_m_work, .ref h_m_small, .int m_rows, .int m_columns, .int m_prime, .ref h_m_pivots, .ref h_m_freeRows, .ref h_m_freeColumns, .ref h_m_minor, .ref h_m_smallMinor, .ref h_m_fields, .ref h_m_rowCounts, .ref h_m_elements, .ref h_m_numbers, .ref h_m_known, .ref h_m_ranks, .ref h_m_rankOf, .ref h_m_signOf, .ref h_m_order, .ref h_m_sizes, .ref h_m_coefficients, .ref h_m_choices, .ref h_m_sorted])), (h_m_elements, .inl (cI, m_elements_n, .inl m_elements))])) (va_Qi (fun (v : Int32) (_ : Unit) => v = r) (fun (u : Unit) (t : State) => va_P (dC, dI) cl_all [(h_m, .inr (6, [.ref h_m_one, .ref h_m_two, .ref h_m_three, .ref h_m_four, .ref h_m_five, .ref h_m_six, .ref h_m_seven, .ref h_m_eight, .ref h_m_work, .ref h_m_small, .int m_rows, .int m_columns, .int m_prime, .ref h_m_pivots, .ref h_m_freeRows, .ref h_m_freeColumns, .ref h_m_minor, .ref h_m_smallMinor, .ref h_m_fields, .ref h_m_rowCounts, .ref h_m_elements, .ref h_m_numbers, .ref h_m_known, .ref h_m_ranks, .ref h_m_rankOf, .ref h_m_signOf, .ref h_m_order, .ref h_m_sizes, .ref h_m_coefficients, .ref h_m_choices, .ref h_m_sorted])), (h_m_elements, .inl (cI, m_elements_n, .inl m_elements))] t.heap ∧ va_K (dC, dI) cl_all [(cI, .int), (cJ, .long), (cB, .byte), (cZ, .boolean), (cT, .object "BasisWalk$Table"), (cN, .object "BasisWalkModel$Num")] t ∧ va_D (va_A [(h_m, .inr (6, [.ref h_m_one, .ref h_m_two, .ref h_m_three, .ref h_m_four, .ref h_m_five, .ref h_m_six, .ref h_m_seven, .ref h_m_eight, .ref h_m_work, .ref h_m_small, .int m_rows, .int m_columns, .int m_prime, .ref h_m_pivots, .ref h_m_freeRows, .ref h_m_freeColumns, .ref h_m_minor, .ref h_m_smallMinor, .ref h_m_fields, .ref h_m_rowCounts, .ref h_m_elements, .ref h_m_numbers, .ref h_m_known, .ref h_m_ranks, .ref h_m_rankOf, .ref h_m_signOf, .ref h_m_order, .ref h_m_sizes, .ref h_m_coefficients, .ref h_m_choices, .ref h_m_sorted])), (h_m_elements, .inl (cI, m_elements_n, .inl m_elements))] sz) [(h_m, .inr (6, [.ref h_m_one, .ref h_m_two, .ref h_m_three, .ref h_m_four, .ref h_m_five, .ref h_m_six, .ref h_m_seven, .ref h_m_eight, .ref h_m_work, .ref h_m_small, .int m_rows, .int m_columns, .int m_prime, .ref h_m_pivots, .ref h_m_freeRows, .ref h_m_freeColumns, .ref h_m_minor, .ref h_m_smallMinor, .ref h_m_fields, .ref h_m_rowCounts, .ref h_m_elements, .ref h_m_numbers, .ref h_m_known, .ref h_m_ranks, .ref h_m_rankOf, .ref h_m_signOf, .ref h_m_order, .ref h_m_sizes, .ref h_m_coefficients, .ref h_m_choices, .ref h_m_sorted])), (h_m_elements, .inl (cI, m_elements_n, .inl m_elements))]) (va_A [(h_m, .inr (6, [.ref h_m_one, .ref h_m_two, .ref h_m_three, .ref h_m_four, .ref h_m_five, .ref h_m_six, .ref h_m_seven, .ref h_m_eight, .ref h_m_work, .ref h_m_small, .int m_rows, .int m_columns, .int m_prime, .ref h_m_pivots, .ref h_m_freeRows, .ref h_m_freeColumns, .ref h_m_minor, .ref h_m_smallMinor, .ref h_m_fields, .ref h_m_rowCounts, .ref h_m_elements, .ref h_m_numbers, .ref h_m_known, .ref h_m_ranks, .ref h_m_rankOf, .ref h_m_signOf, .ref h_m_order, .ref h_m_sizes, .ref h_m_coefficients, .ref h_m_choices, .ref h_m_sorted])), (h_m_elements, .inl (cI, m_elements_n, .inl m_elements))] sz)) 0 0 (va_A [(h_m, .inr (6, [.ref h_m_one, .ref h_m_two, .ref h_m_three, .ref h_m_four, .ref h_m_five, .ref h_m_six, .ref h_m_seven, .ref h_m_eight, .ref h_m_work, .ref h_m_small, .int m_rows, .int m_columns, .int m_prime, .ref h_m_pivots, .ref h_m_freeRows, .ref h_m_freeColumns, .ref h_m_minor, .ref h_m_smallMinor, .ref h_m_fields, .ref h_m_rowCounts, .ref h_m_elements, .ref h_m_numbers, .ref h_m_known, .ref h_m_ranks, .ref h_m_rankOf, .ref h_m_signOf, .ref h_m_order, .ref h_m_sizes, .ref h_m_coefficients, .ref h_m_choices, .ref h_m_sorted])), (h_m_elements, .inl (cI, m_elements_n, .inl m_elements))] sz) := by
  refine Met.ofW (cc := prog_7_method_39_code) (maxL := 2) (ret := (Option.some Jvm.ClassFile.FieldType.int)) (by decide) rfl ?_
  intro p e s m args below meth c s₁ B hml hv
  obtain ⟨hAR, hsz, hP, hK, hN, hD0⟩ := hv
  have hx := B.exec
  have hb := B.bytes
  have hr := B.returns
  have hts := atoms_spec (ws := w_Mo_columns) B.pre
  have hown : s.vm.findClass "BasisWalkModel" = some m.cls := findClass_of_methodNamed B.named
  have hlocks := B.notSynchronized
  clear B
  subst hsz
  have hD := hD0.self (sz := s.heap.size)
  generalize hAe : va_A [(h_m, .inr (6, [.ref h_m_one, .ref h_m_two, .ref h_m_three, .ref h_m_four, .ref h_m_five, .ref h_m_six, .ref h_m_seven, .ref h_m_eight, .ref h_m_work, .ref h_m_small, .int m_rows, .int m_columns, .int m_prime, .ref h_m_pivots, .ref h_m_freeRows, .ref h_m_freeColumns, .ref h_m_minor, .ref h_m_smallMinor, .ref h_m_fields, .ref h_m_rowCounts, .ref h_m_elements, .ref h_m_numbers, .ref h_m_known, .ref h_m_ranks, .ref h_m_rankOf, .ref h_m_signOf, .ref h_m_order, .ref h_m_sizes, .ref h_m_coefficients, .ref h_m_choices, .ref h_m_sorted])), (h_m_elements, .inl (cI, m_elements_n, .inl m_elements))] s.heap.size = A at hD ⊢
  have hA : ∀ q : Nat, s.heap.size ≤ q → A q := fun q h => by rw [← hAe]; exact Or.inr h
  clear hAe hD0
  have hS : va_S A s.heap s.heap [] := va_S.rf
  have hl := lv_entry ([.ref h_m, .int t0]) (n := 2) (Nat.le_of_ble_eq_true rfl)
  subst hAR
  rw [lg_entry_eq]
  generalize (lg_sl ([.ref h_m, .int t0]) ++ List.replicate (2 - (lg_sl ([.ref h_m, .int t0])).length) Slot.unset).toArray = ls at hl ⊢
  have hl : lv_has ls 2 [(0, .ref h_m), (1, .int t0)] := hl
  change W p l e ({ frames := 1, cells := 0, slots := 0, locals := 20 } : Room) s m _ below meth c s.heap [] 0 0 _ _
  generalize hARe : ([.ref h_m, .int t0] : List Value).toArray = AR at hts ⊢
  clear hARe
  generalize hQ : MQ below _ AR s 0 0 A = QQ
  have fl0 := hts _ (List.mem_cons_of_mem _ tw_375)
  have iw1 := (fun w hw => List.mem_cons_of_mem _ (in_Mo w hw) : ∀ w ∈ u_ws "BasisWalkModel" T_Mo 31, w ∈ w_Mo_columns)
  obtain ⟨H, hHe⟩ : ∃ H : Heap, H = s.heap := ⟨_, rfl⟩
  rw [← hHe] at hP ⊢
  replace hS : va_S A s.heap H [] := by rw [hHe]; exact va_S.rf
  clear hHe
  unfold f_R_columns at h
  refine lv_iload_n hx hb d_Mo_columns_0 rfl (lv_at hl 1 rfl) ?_
  obtain ⟨r_1, hc_2, h⟩ := ck_b1_s h
  have hPc := hP.sub (ws' := []) [] rfl
  have hDc := hD.sub (ws' := []) [] (by decide) rfl
  have hFc := va_free (wc := []) hD hS hA [] rfl
  refine va_calli (va_runS (As := [.int t0]) (rest := []) ⟨hx, hb, hml, hown, hts⟩ (c_R_isTable l dC dI cI cJ cB cZ cT cN H.size t0 _ hc_2) (va_cwS 1 hts (tb_S tw_455 tw_456 tw_6 tw_457) rfl rfl rfl (by decide +kernel) ⟨Nat.le_of_ble_eq_true rfl, Nat.le_of_ble_eq_true rfl⟩) ⟨fun a U g mk q => by obtain ⟨q0, q1, qP, qK, qN, qD⟩ := q; exact ⟨q0, q1, qP, va_K.moved (u := U) (U := U.calling g mk a) (Vm.Alike.refl U.vm) qK, qN.same rfl, qD⟩, fun U hU hW => ⟨rfl, by rw [hU], by rw [hU]; exact hPc, va_K.moved hW.alike hK, hN.warm hW, hDc.weaken (fun _ _ _ _ => trivial)⟩⟩ rfl rfl hl.1 rfl (lv_room (Nat.le_of_ble_eq_true rfl)) d_Mo_columns_1 ⟨Nat.zero_le _, Nat.zero_le _⟩) hS (fun q _ h => hFc q h) hFc (fun rr u t H1 locs ht hvm hw hB hz1 hk1 hS => ?_)
  replace hw := hw.symm
  subst hw
  obtain ⟨hP1, -, hD1⟩ := hB
  rw [ht] at hP1
  obtain ⟨hP, hD⟩ := va_join (wr := [(h_m, .inr (6, [.ref h_m_one, .ref h_m_two, .ref h_m_three, .ref h_m_four, .ref h_m_five, .ref h_m_six, .ref h_m_seven, .ref h_m_eight, .ref h_m_work, .ref h_m_small, .int m_rows, .int m_columns, .int m_prime, .ref h_m_pivots, .ref h_m_freeRows, .ref h_m_freeColumns, .ref h_m_minor, .ref h_m_smallMinor, .ref h_m_fields, .ref h_m_rowCounts, .ref h_m_elements, .ref h_m_numbers, .ref h_m_known, .ref h_m_ranks, .ref h_m_rankOf, .ref h_m_signOf, .ref h_m_order, .ref h_m_sizes, .ref h_m_coefficients, .ref h_m_choices, .ref h_m_sorted])), (h_m_elements, .inl (cI, m_elements_n, .inl m_elements))]) (w1 := []) hP hD [] [0, 1] rfl rfl (by decide) (by decide) hk1 hFc hP1 hD1
  generalize H1 = H at hP hS ⊢
  have hP : va_P (dC, dI) cl_all [(h_m, .inr (6, [.ref h_m_one, .ref h_m_two, .ref h_m_three, .ref h_m_four, .ref h_m_five, .ref h_m_six, .ref h_m_seven, .ref h_m_eight, .ref h_m_work, .ref h_m_small, .int m_rows, .int m_columns, .int m_prime, .ref h_m_pivots, .ref h_m_freeRows, .ref h_m_freeColumns, .ref h_m_minor, .ref h_m_smallMinor, .ref h_m_fields, .ref h_m_rowCounts, .ref h_m_elements, .ref h_m_numbers, .ref h_m_known, .ref h_m_ranks, .ref h_m_rankOf, .ref h_m_signOf, .ref h_m_order, .ref h_m_sizes, .ref h_m_coefficients, .ref h_m_choices, .ref h_m_sorted])), (h_m_elements, .inl (cI, m_elements_n, .inl m_elements))] H := hP.sub [0, 1] rfl
  have hD : va_D A [(h_m, .inr (6, [.ref h_m_one, .ref h_m_two, .ref h_m_three, .ref h_m_four, .ref h_m_five, .ref h_m_six, .ref h_m_seven, .ref h_m_eight, .ref h_m_work, .ref h_m_small, .int m_rows, .int m_columns, .int m_prime, .ref h_m_pivots, .ref h_m_freeRows, .ref h_m_freeColumns, .ref h_m_minor, .ref h_m_smallMinor, .ref h_m_fields, .ref h_m_rowCounts, .ref h_m_elements, .ref h_m_numbers, .ref h_m_known, .ref h_m_ranks, .ref h_m_rankOf, .ref h_m_signOf, .ref h_m_order, .ref h_m_sizes, .ref h_m_coefficients, .ref h_m_choices, .ref h_m_sorted])), (h_m_elements, .inl (cI, m_elements_n, .inl m_elements))] := hD.sub [0, 1] (by decide) rfl
  refine lv_if_eq (tgt := 16) hx hb d_Mo_columns_4 (by decide) (fun c_3 => ?_) (fun c_3 => ?_)
  · replace h := ck_if_t h c_3
    refine lv_iconst (v := (-1)) hx hb d_Mo_columns_16 (by decide) ?_
    obtain rfl := Option.some.inj h
    subst hQ
    exact W.iret (v := (-1)) hx hb hr (fun t ht hW => ⟨⟨(-1), (), rfl, rfl, by rw [ht]; exact hP, va_K.moved hW.alike hK, hD⟩, hS.F ht⟩) hS.2.2 d_Mo_columns_17
  · replace h := ck_if_f h c_3
    refine lv_aload_n hx hb d_Mo_columns_7 rfl (lv_at hl 0 rfl) ?_
    refine va_get (D := (dC, dI)) (ci := 6) (v := .ref h_m_elements) (C := "BasisWalkModel") (T := T_Mo) (N := 31) hx hb hts iw1 hown hK hP 0 rfl rfl 20 (by decide) fl0 (fun _ h9 => h9) rfl d_Mo_columns_8 ?_
    refine lv_iload_n hx hb d_Mo_columns_11 rfl (lv_at hl 1 rfl) ?_
    obtain ⟨g_4, h⟩ := ck_in_s h
    refine va_iald hx hb hK hP 1 0 rfl rfl g_4 d_Mo_columns_12 ?_
    refine lv_goto (tgt := 17) hx hb d_Mo_columns_13 (by decide) ?_
    obtain rfl := Option.some.inj h
    subst hQ
    exact W.iret (v := (m_elements t0.toNatClampNeg)) hx hb hr (fun t ht hW => ⟨⟨(m_elements t0.toNatClampNeg), (), rfl, rfl, by rw [ht]; exact hP, va_K.moved hW.alike hK, hD⟩, hS.F ht⟩) hS.2.2 d_Mo_columns_17
