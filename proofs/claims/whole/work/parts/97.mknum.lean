theorem nd_range (n : Nat) : va_nd (List.range n) = true := by
  have h : ∀ l : List Nat, l.Nodup → va_nd l = true := by
    intro l
    induction l with
    | nil => intro _; rfl
    | cons a l ih =>
      intro h
      rw [List.nodup_cons] at h
      show (decide (a ∉ l) && va_nd l) = true
      rw [ih h.2, decide_eq_true h.1]; rfl
  exact h _ List.nodup_range
theorem rg_map {wr t : va_W} : (List.range wr.length).map (fun i => (wr ++ t)[i]?) = wr.map some := by
  apply List.ext_getElem?
  intro k
  rw [List.getElem?_map, List.getElem?_map]
  by_cases q : k < wr.length
  · rw [List.getElem?_range q, List.getElem?_eq_getElem q]
    simp [List.getElem?_append_left q, List.getElem?_eq_getElem q]
  · rw [List.getElem?_eq_none (by simp; omega), List.getElem?_eq_none (by omega)]; rfl
set_option maxHeartbeats 4000000 in
/-- one number made behind the world -/
theorem mk_num {p : Program} {l : Launch} {e : Env} {s : State} {m : MethodId} {AR : Array Value} {below : List Frame} {meth : Method} {c : Code} {H : Heap} {locs : List Loc} {cells slots : Nat} {Q : State → Prop} {pc : Nat} {ls : Array Slot} {A : Nat → Prop} {ws : va_W} {lv : List (Nat × Value)} {dC : Nat → ClassId} {dI : Nat → Nat → Nat} {cI cJ cB cZ cT cN : ClassId} {iv : Int32} {aw : Nat}
    (hx : p.tables.exec = Jvm.exec) (hb : c.code = prog_7_method_17_code) (hml : c.maxLocals = 3) (hown : s.vm.findClass "BasisWalkModel" = some m.cls) (hts : ∀ w ∈ w_Mo_init, w.before AR s = true) (hN : NW s)
    (hK : va_K (dC, dI) cl_all [(cI, .int), (cJ, .long), (cB, .byte), (cZ, .boolean), (cT, .object "BasisWalk$Table"), (cN, .object "BasisWalkModel$Num")] s) (hP : va_P (dC, dI) cl_all ws H) (hD : va_D A ws) (hS : va_S A s.heap H locs) (hA : ∀ q : Nat, s.heap.size ≤ q → A q) (hl : lv_has ls 3 lv)
    (hc : cells + 2 ≤ 420) (hs : slots + 163 ≤ 74928) (d1 : decode prog_7_method_17_code pc = .ok (.new 8, 3)) (d2 : decode prog_7_method_17_code (pc + 3) = .ok (.dup, 1)) (d3 : decode prog_7_method_17_code (pc + 3 + 1) = .ok (.invokespecial 152, 3))
    (kk : ∀ (q d : Nat) (H : Heap) (locs : List Loc), va_P (dC, dI) cl_all (ws ++ [(q, .inr (5, [.ref d, .int 0, .int 0])), (d, .inl (cI, 160, .inl (fun _ => 0)))]) H → va_D A (ws ++ [(q, .inr (5, [.ref d, .int 0, .int 0])), (d, .inl (cI, 160, .inl (fun _ => 0)))]) → va_S A s.heap H locs → W p l e ({ frames := 13, cells := 420, slots := 74928, locals := 350 } : Room) s m AR below meth c H locs (cells + 1 + 1) (slots + 3 + 160) Q (F0 m (pc + 3 + 1 + 3) ls [.ref q, .int iv, .ref aw])) :
    W p l e ({ frames := 13, cells := 420, slots := 74928, locals := 350 } : Room) s m AR below meth c H locs cells slots Q (F0 m pc ls [.int iv, .ref aw]) := by
  have cl3 := hts _ (List.mem_cons_of_mem _ tw_332)
  have it4 := hts _ (List.mem_cons_of_mem _ tw_333)
  have ini5 := hts _ (List.mem_cons_of_mem _ tw_7)
  have iw6 := (fun w hw => List.mem_cons_of_mem _ (in_Nu w hw) : ∀ w ∈ u_ws "BasisWalkModel$Num" T_Nu 3, w ∈ w_Mo_init)
  refine va_new (ci := 5) (fs := [.null, .int 0, .int 0]) (C := "BasisWalkModel$Num") (T := T_Nu) (N := 3) hx hb hts iw6 ty_Nu tyok_Nu hown cl3 it4 ini5 hK hP hD hS hA rfl (fun j hj => by match j, hj with | 0, _ => rfl | 1, _ => rfl | 2, _ => rfl) (show cells + 1 ≤ 420 by omega) (show slots + 3 ≤ 74928 by omega) d1 (fun q_1 H hP hD hS => ?_)
  refine lv_dup hx hb d2 rfl ?_
  have hi : [ws.length].map (fun i => (ws ++ [(q_1, (.inr (5, [.null, .int 0, .int 0]) : va_E))])[i]?) = [(q_1, (.inr (5, [.null, .int 0, .int 0]) : va_E))].map some := by simp
  have hj : [ws.length].filterMap (fun i => (ws ++ [(q_1, (.inr (5, [.null, .int 0, .int 0]) : va_E))])[i]?) = [(q_1, (.inr (5, [.null, .int 0, .int 0]) : va_E))] := by simp
  have hPc := hP.sub (ws' := [(q_1, .inr (5, [.null, .int 0, .int 0]))]) [ws.length] hj
  have hDc := hD.sub (ws' := [(q_1, .inr (5, [.null, .int 0, .int 0]))]) [ws.length] rfl hi
  have hFc := va_free (wc := [(q_1, .inr (5, [.null, .int 0, .int 0]))]) hD hS hA [ws.length] hi
  refine va_callv (va_runIN (As := []) (rest := [.ref q_1, .int iv, .ref aw]) ⟨hx, hb, hml, hown, hts⟩ (n_Num l dC dI cI cJ cB cZ cT cN H.size q_1) ⟨va_cnB 0 hts (tb_G tw_336) rfl rfl rfl (hN _ tn_334) (hts _ (List.mem_cons_of_mem _ tw_7)) (by decide +kernel) ⟨Nat.le_of_ble_eq_true rfl, Nat.le_of_ble_eq_true rfl⟩, rfl, hts _ (List.mem_cons_of_mem _ tw_335)⟩ ⟨fun a U g mk q => by obtain ⟨q0, q1, qP, qK, qN, qD⟩ := q; exact ⟨q0, q1, qP, va_K.moved (u := U) (U := U.calling g mk a) (Vm.Alike.refl U.vm) qK, qN.same rfl, qD⟩, fun U hU hW => ⟨rfl, by rw [hU], by rw [hU]; exact hPc, va_K.moved hW.alike hK, hN.warm hW, hDc.weaken (fun _ _ _ _ => trivial)⟩⟩ rfl rfl hl.1 rfl (lv_room (Nat.le_of_ble_eq_true rfl)) d3 ⟨show cells + 1 + 1 ≤ 420 by omega, show slots + 3 + 160 ≤ 74928 by omega⟩) hS (fun q _ h => hFc q h) hFc (fun u t H1 locs ht hvm hw hB hz1 hk1 hS => ?_)
  obtain ⟨q_2, hP1, -, hD1⟩ := hB
  rw [ht] at hP1
  obtain ⟨hP, hD⟩ := va_join (wr := ws) (w1 := [(q_1, .inr (5, [.ref q_2, .int 0, .int 0])), (q_2, .inl (cI, 160, .inl (fun _ => 0)))]) hP hD [ws.length] (List.range ws.length) hi rg_map (nd_range _) (fun i h1 h2 => by have := List.mem_range.mp h1; have := List.mem_singleton.mp h2; omega) hk1 hFc hP1 hD1
  exact kk q_1 q_2 H1 locs hP hD hS
