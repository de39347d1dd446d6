theorem fq_0 {NA : Nat → Nat} {o : Nat} : fq NA o 0 = fun _ => none := by
  funext k; exact if_neg (Nat.not_lt_zero k)
theorem md_list {p : Program} {l : Launch} {e : Env} {s : State} {m : MethodId} {AR : Array Value} {below : List Frame} {meth : Method} {c : Code} {Q : State → Prop} {A : Nat → Prop} {dC : Nat → ClassId} {dI : Nat → Nat → Nat} {cI cJ cB cZ cT cN : ClassId} {q : Nat → Nat}
    (hx : p.tables.exec = Jvm.exec) (hb : c.code = prog_7_method_17_code) (hml : c.maxLocals = 3) (hown : s.vm.findClass "BasisWalkModel" = some m.cls) (hts : ∀ w ∈ w_Mo_init, w.before AR s = true) (hN : NW s)
    (hK : va_K (dC, dI) cl_all [(cI, .int), (cJ, .long), (cB, .byte), (cZ, .boolean), (cT, .object "BasisWalk$Table"), (cN, .object "BasisWalkModel$Num")] s) (hA : ∀ q : Nat, s.heap.size ≤ q → A q)
    (kk : ∀ (ha NA ND : Nat → Nat) (n : Int32) (w z : Nat → Int32) (H : Heap) (locs : List Loc) (ls : Array Slot), ha 0 = q 0 → LI 13 n w z → va_P (dC, dI) cl_all (xw cI cJ cB cZ cN ha NA 0 0 0 (fun _ => 0) (fun _ => 0) (fun _ => 0) (fun _ => 0) (fun _ => 0) (fun _ => 0) (fun _ => 0) (fun _ => 0) (fun _ => 0) (fun _ => 0) (fun _ => 0) (fun _ => 0) (fun _ => 0) w z (fun _ => 0) (fun _ => 0) (fun _ => 0) ++ po cI NA ND (fun _ => 0) (fun _ => 0) (fun _ _ => 0)) H → va_D A (xw cI cJ cB cZ cN ha NA 0 0 0 (fun _ => 0) (fun _ => 0) (fun _ => 0) (fun _ => 0) (fun _ => 0) (fun _ => 0) (fun _ => 0) (fun _ => 0) (fun _ => 0) (fun _ => 0) (fun _ => 0) (fun _ => 0) (fun _ => 0) w z (fun _ => 0) (fun _ => 0) (fun _ => 0) ++ po cI NA ND (fun _ => 0) (fun _ => 0) (fun _ _ => 0)) → va_S A s.heap H locs → W p l e ({ frames := 13, cells := 420, slots := 74928, locals := 350 } : Room) s m AR below meth c H locs 420 74928 Q (F0 m 338 ls []))
    {NA ND : Nat → Nat} {H : Heap} {locs : List Loc} {ls : Array Slot} {x : Int32} (hl : lv_has ls 3 [(1, .int x), (0, .ref (q 0))]) (hP : va_P (dC, dI) cl_all (wB q cI cJ cB cZ cN (fq NA 0 156) (fq NA 156 36) ++ pl cI NA ND 192) H) (hD : va_D A (wB q cI cJ cB cZ cN (fq NA 0 156) (fq NA 156 36) ++ pl cI NA ND 192)) (hS : va_S A s.heap H locs) : W p l e ({ frames := 13, cells := 420, slots := 74928, locals := 350 } : Room) s m AR below meth c H locs 420 74928 Q (F0 m 313 ls []) := by
  refine lv_iconst (v := 0) hx hb d_Mo_init_313 (by decide) ?_
  refine lv_istore_n (lv' := [(1, .int 0), (0, .ref (q 0))]) hx hb d_Mo_init_314 rfl hl (by decide) rfl (fun ls hl => ?_)
  refine lv_iconst (v := 0) hx hb d_Mo_init_315 (by decide) ?_
  refine lv_istore_n (lv' := [(2, .int 0), (1, .int 0), (0, .ref (q 0))]) hx hb d_Mo_init_316 rfl hl (by decide) rfl (fun ls hl => ?_)
  obtain ⟨hP, hD⟩ := re_w hP hD
  refine lp_list (ha := hB q) (NA := NB q NA) (ND := NC q ND) hx hb hml hown hts hN hK hA (fun n w z H locs ls hL hP hD hS => kk (hB q) (NB q NA) (NC q ND) n w z H locs ls rfl hL hP hD hS) 13 0 (Nat.zero_add 13) 0 (fun _ => 0) (fun _ => 0) H locs ls LI_0 ?_ hP hD hS
  rw [nI_0]
  exact hl
theorem md_minor {p : Program} {l : Launch} {e : Env} {s : State} {m : MethodId} {AR : Array Value} {below : List Frame} {meth : Method} {c : Code} {Q : State → Prop} {A : Nat → Prop} {dC : Nat → ClassId} {dI : Nat → Nat → Nat} {cI cJ cB cZ cT cN : ClassId} {q : Nat → Nat}
    (hx : p.tables.exec = Jvm.exec) (hb : c.code = prog_7_method_17_code) (hml : c.maxLocals = 3) (hown : s.vm.findClass "BasisWalkModel" = some m.cls) (hts : ∀ w ∈ w_Mo_init, w.before AR s = true) (hN : NW s)
    (hK : va_K (dC, dI) cl_all [(cI, .int), (cJ, .long), (cB, .byte), (cZ, .boolean), (cT, .object "BasisWalk$Table"), (cN, .object "BasisWalkModel$Num")] s) (hA : ∀ q : Nat, s.heap.size ≤ q → A q)
    (kk : ∀ (NA ND : Nat → Nat) (H : Heap) (locs : List Loc) (ls : Array Slot) (x : Int32), lv_has ls 3 [(1, .int x), (0, .ref (q 0))] → va_P (dC, dI) cl_all (wB q cI cJ cB cZ cN (fq NA 0 156) (fq NA 156 36) ++ pl cI NA ND 192) H → va_D A (wB q cI cJ cB cZ cN (fq NA 0 156) (fq NA 156 36) ++ pl cI NA ND 192) → va_S A s.heap H locs → W p l e ({ frames := 13, cells := 420, slots := 74928, locals := 350 } : Room) s m AR below meth c H locs 420 74928 Q (F0 m 313 ls []))
    {NA ND : Nat → Nat} {H : Heap} {locs : List Loc} {ls : Array Slot} {x : Int32} (hl : lv_has ls 3 [(1, .int x), (0, .ref (q 0))]) (hP : va_P (dC, dI) cl_all (wB q cI cJ cB cZ cN (fq NA 0 156) (fun _ => none) ++ pl cI NA ND 156) H) (hD : va_D A (wB q cI cJ cB cZ cN (fq NA 0 156) (fun _ => none) ++ pl cI NA ND 156)) (hS : va_S A s.heap H locs) : W p l e ({ frames := 13, cells := 420, slots := 74928, locals := 350 } : Room) s m AR below meth c H locs 348 69060 Q (F0 m 286 ls []) := by
  refine lv_iconst (v := 0) hx hb d_Mo_init_286 (by decide) ?_
  refine lv_istore_n (lv' := [(1, .int 0), (0, .ref (q 0))]) hx hb d_Mo_init_287 rfl hl (by decide) rfl (fun ls hl => ?_)
  have h := lp_minor (q := q) hx hb hml hown hts hN hK hA (Q := Q) (fun NA ND H locs ls hl hP hD hS => kk NA ND H locs ls _ hl hP hD hS) 36 0 (Nat.zero_add 36) NA ND H locs ls
  rw [nI_0, fq_0] at h
  exact h hl hP hD hS
theorem md_work {p : Program} {l : Launch} {e : Env} {s : State} {m : MethodId} {AR : Array Value} {below : List Frame} {meth : Method} {c : Code} {Q : State → Prop} {A : Nat → Prop} {dC : Nat → ClassId} {dI : Nat → Nat → Nat} {cI cJ cB cZ cT cN : ClassId} {q : Nat → Nat}
    (hx : p.tables.exec = Jvm.exec) (hb : c.code = prog_7_method_17_code) (hml : c.maxLocals = 3) (hown : s.vm.findClass "BasisWalkModel" = some m.cls) (hts : ∀ w ∈ w_Mo_init, w.before AR s = true) (hN : NW s)
    (hK : va_K (dC, dI) cl_all [(cI, .int), (cJ, .long), (cB, .byte), (cZ, .boolean), (cT, .object "BasisWalk$Table"), (cN, .object "BasisWalkModel$Num")] s) (hA : ∀ q : Nat, s.heap.size ≤ q → A q)
    (kk : ∀ (NA ND : Nat → Nat) (H : Heap) (locs : List Loc) (ls : Array Slot) (x : Int32), lv_has ls 3 [(1, .int x), (0, .ref (q 0))] → va_P (dC, dI) cl_all (wB q cI cJ cB cZ cN (fq NA 0 156) (fun _ => none) ++ pl cI NA ND 156) H → va_D A (wB q cI cJ cB cZ cN (fq NA 0 156) (fun _ => none) ++ pl cI NA ND 156) → va_S A s.heap H locs → W p l e ({ frames := 13, cells := 420, slots := 74928, locals := 350 } : Room) s m AR below meth c H locs 348 69060 Q (F0 m 286 ls []))
    {H : Heap} {locs : List Loc} {ls : Array Slot} (hl : lv_has ls 3 [(0, .ref (q 0))]) (hP : va_P (dC, dI) cl_all (wB q cI cJ cB cZ cN (fun _ => none) (fun _ => none)) H) (hD : va_D A (wB q cI cJ cB cZ cN (fun _ => none) (fun _ => none))) (hS : va_S A s.heap H locs) : W p l e ({ frames := 13, cells := 420, slots := 74928, locals := 350 } : Room) s m AR below meth c H locs 36 43632 Q (F0 m 258 ls []) := by
  refine lv_iconst (v := 0) hx hb d_Mo_init_258 (by decide) ?_
  refine lv_istore_n (lv' := [(1, .int 0), (0, .ref (q 0))]) hx hb d_Mo_init_259 rfl hl (by decide) rfl (fun ls hl => ?_)
  have h := lp_work (q := q) hx hb hml hown hts hN hK hA (Q := Q) (fun NA ND H locs ls hl hP hD hS => kk NA ND H locs ls _ hl hP hD hS) 156 0 (Nat.zero_add 156) (fun _ => 0) (fun _ => 0) H locs ls
  rw [nI_0, fq_0] at h
  refine h hl ?_ ?_ hS
  · show va_P _ _ ((wB q cI cJ cB cZ cN (fun _ => none) (fun _ => none)) ++ []) H
    rw [List.append_nil]; exact hP
  · show va_D _ ((wB q cI cJ cB cZ cN (fun _ => none) (fun _ => none)) ++ [])
    rw [List.append_nil]; exact hD
