section LawSteps2
variable {p : Program} {l : Launch} {e : Env} {s : State} {m : MethodId} {below : List Frame} {meth : Method} {c : Code} {b : Nat} {dC : Nat → ClassId} {dI : Nat → Nat → Nat} {cI cJ cB cZ cT cN : ClassId} {g ha NA ND : Nat → Nat} {K : KS} {R : RS} {H : Heap} {locs : List Loc} {ls : Array Slot} {lv : List (Nat × Value)} {Q : State → Prop}
theorem y_begin (C : LX p s m c b dC dI cI cJ cB cZ cT cN) {x0 f w k : Int32} {a : Int32 × (Nat → Int32) × (Nat → Int32) × (Nat → Int32) × (Nat → Int32) × (Nat → Int32)} {v0 : Int32} (h : f_R_begin 4 R.flds 4 R.rcs 4 R.els 4 R.kn 576 R.nb x0 f w k = some a) (hw : LW s dC dI cI cJ cB cZ cT cN g ha NA ND K R H locs) (hl : lv_has ls 4 lv)
    (kk : ∀ (H : Heap) (locs : List Loc), LW s dC dI cI cJ cB cZ cT cN g ha NA ND K (rbeg R a.2) H locs → W p l e room_1 s m #[Value.ref b] below meth c H locs 600000 7302250 Q (F0 m 132 ls [.int a.1, .int v0])) : W p l e room_1 s m #[Value.ref b] below meth c H locs 600000 7302250 Q (F0 m 129 ls [.int k, .int w, .int f, .int x0, .ref (ha 0), .int v0]) := by
  obtain ⟨hx, hb, hml, hown, hts, hN, hK⟩ := C
  obtain ⟨hP, hD, hS⟩ := hw
  obtain ⟨hPc, hDc⟩ := pw_sub _ (pw_appR (rw_b (cI := cI) (cJ := cJ) (cB := cB) (cZ := cZ) (cN := cN) (ha := ha) (NA := NA) (ND := ND) (r := R))) (pw_ndR (by decide)) hP hD
  have hFc := pw_free hDc hS (fun q h => h)
  refine va_calli (va_runV (As := [.int x0, .int f, .int w, .int k]) (rest := [.int v0]) ⟨hx, hb, hml, hown, hts⟩ (c_R_begin l dC dI cI cJ cB cZ cT cN H.size (ha 0) (NA 192) (NA 193) (NA 194) (NA 195) (NA 196) (NA 197) (NA 198) (NA 199) (ha 1) (ha 2) (ha 3) (ha 4) (ha 5) (ha 6) (ha 7) (ha 8) (ha 9) (ha 10) (ha 11) (ha 12) (ha 13) (ha 14) (ha 15) (ha 16) (ha 17) (ha 18) (ha 19) (ha 20) R.rows R.cols R.prime 4 R.flds 4 R.rcs 4 R.els 4 R.kn 576 R.nb x0 f w k a h) (cwV 4 hts (tb_V tw_451 tw_452 tw_453 tw_6 tw_454) rfl rfl rfl (by decide +kernel) ⟨Nat.le_of_ble_eq_true rfl, Nat.le_of_ble_eq_true rfl⟩) ⟨fun a U g mk q => by obtain ⟨q0, q1, qP, qK, qN, qD⟩ := q; exact ⟨q0, q1, qP, va_K.moved (u := U) (U := U.calling g mk a) (Vm.Alike.refl U.vm) qK, qN.same rfl, qD⟩, va_recv hK hPc (ci := 6) (q0 := 0) rfl rfl, fun U hU hW => ⟨rfl, by rw [hU], by rw [hU]; exact hPc, va_K.moved hW.alike hK, hN.warm hW, hDc.weaken (fun _ _ _ _ => trivial)⟩⟩ rfl rfl hl.1 rfl (lv_room (Nat.le_of_ble_eq_true rfl)) d_law_129 ⟨Nat.le_of_ble_eq_true rfl, Nat.le_of_ble_eq_true rfl⟩) hS (fun q _ h => hFc q h) hFc (fun rr u t1 H1 locs ht1 hvm hw hB hz1 hk1 hS => ?_)
  subst hw
  obtain ⟨hP1, -, hD1⟩ := hB
  rw [ht1] at hP1
  obtain ⟨hP, hD⟩ := pw_swapR (Y := RW cI cJ cB cZ cN ha NA ND R) (Y' := RW cI cJ cB cZ cN ha NA ND (rbeg R u)) [0, 8, 9, 10, 12, 11] (rw_b (cI := cI) (cJ := cJ) (cB := cB) (cZ := cZ) (cN := cN) (ha := ha) (NA := NA) (ND := ND) (r := R)) (rw_b (cI := cI) (cJ := cJ) (cB := cB) (cZ := cZ) (cN := cN) (ha := ha) (NA := NA) (ND := ND) (r := rbeg R u)) rw_adr off_rb hP hD hk1 hP1
  exact kk H1 locs ⟨hP, hD, hS⟩
theorem y_put (C : LX p s m c b dC dI cI cJ cB cZ cT cN) {x0 w k v : Int32} {a : Int32 × (Nat → Int32) × (Nat → Int32)} {v0 : Int32} (h : f_R_put 4 R.rcs 4 R.els 4 R.kn 576 R.nb x0 w k v = some a) (hw : LW s dC dI cI cJ cB cZ cT cN g ha NA ND K R H locs) (hl : lv_has ls 4 lv)
    (kk : ∀ (H : Heap) (locs : List Loc), LW s dC dI cI cJ cB cZ cT cN g ha NA ND K (rput R a.2) H locs → W p l e room_1 s m #[Value.ref b] below meth c H locs 600000 7302250 Q (F0 m 185 ls [.int a.1, .int v0])) : W p l e room_1 s m #[Value.ref b] below meth c H locs 600000 7302250 Q (F0 m 182 ls [.int v, .int k, .int w, .int x0, .ref (ha 0), .int v0]) := by
  obtain ⟨hx, hb, hml, hown, hts, hN, hK⟩ := C
  obtain ⟨hP, hD, hS⟩ := hw
  obtain ⟨hPc, hDc⟩ := pw_sub _ (pw_appR (rw_p (cI := cI) (cJ := cJ) (cB := cB) (cZ := cZ) (cN := cN) (ha := ha) (NA := NA) (ND := ND) (r := R))) (pw_ndR (by decide)) hP hD
  have hFc := pw_free hDc hS (fun q h => h)
  refine va_calli (va_runV (As := [.int x0, .int w, .int k, .int v]) (rest := [.int v0]) ⟨hx, hb, hml, hown, hts⟩ (c_R_put l dC dI cI cJ cB cZ cT cN H.size (ha 0) (NA 192) (NA 193) (NA 194) (NA 195) (NA 196) (NA 197) (NA 198) (NA 199) (ha 1) (ha 2) (ha 3) (ha 4) (ha 5) (ha 6) (ha 7) (ha 8) (ha 9) (ha 10) (ha 11) (ha 12) (ha 13) (ha 14) (ha 15) (ha 16) (ha 17) (ha 18) (ha 19) (ha 20) R.rows R.cols R.prime 4 R.rcs 4 R.els 4 R.kn 576 R.nb x0 w k v a h) (cwV 4 hts (tb_V tw_461 tw_462 tw_463 tw_6 tw_464) rfl rfl rfl (by decide +kernel) ⟨Nat.le_of_ble_eq_true rfl, Nat.le_of_ble_eq_true rfl⟩) ⟨fun a U g mk q => by obtain ⟨q0, q1, qP, qK, qN, qD⟩ := q; exact ⟨q0, q1, qP, va_K.moved (u := U) (U := U.calling g mk a) (Vm.Alike.refl U.vm) qK, qN.same rfl, qD⟩, va_recv hK hPc (ci := 6) (q0 := 0) rfl rfl, fun U hU hW => ⟨rfl, by rw [hU], by rw [hU]; exact hPc, va_K.moved hW.alike hK, hN.warm hW, hDc.weaken (fun _ _ _ _ => trivial)⟩⟩ rfl rfl hl.1 rfl (lv_room (Nat.le_of_ble_eq_true rfl)) d_law_182 ⟨Nat.le_of_ble_eq_true rfl, Nat.le_of_ble_eq_true rfl⟩) hS (fun q _ h => hFc q h) hFc (fun rr u t1 H1 locs ht1 hvm hw hB hz1 hk1 hS => ?_)
  subst hw
  obtain ⟨hP1, -, hD1⟩ := hB
  rw [ht1] at hP1
  obtain ⟨hP, hD⟩ := pw_swapR (Y := RW cI cJ cB cZ cN ha NA ND R) (Y' := RW cI cJ cB cZ cN ha NA ND (rput R u)) [0, 9, 10, 12, 11] (rw_p (cI := cI) (cJ := cJ) (cB := cB) (cZ := cZ) (cN := cN) (ha := ha) (NA := NA) (ND := ND) (r := R)) (rw_p (cI := cI) (cJ := cJ) (cB := cB) (cZ := cZ) (cN := cN) (ha := ha) (NA := NA) (ND := ND) (r := rput R u)) rw_adr off_rp hP hD hk1 hP1
  exact kk H1 locs ⟨hP, hD, hS⟩
theorem y_columns (C : LX p s m c b dC dI cI cJ cB cZ cT cN) {x0  : Int32} {a : Int32} {v0 : Int32} (h : f_R_columns 4 R.els x0  = some a) (hw : LW s dC dI cI cJ cB cZ cT cN g ha NA ND K R H locs) (hl : lv_has ls 4 lv)
    (kk : ∀ (H : Heap) (locs : List Loc), LW s dC dI cI cJ cB cZ cT cN g ha NA ND K R H locs → W p l e room_1 s m #[Value.ref b] below meth c H locs 600000 7302250 Q (F0 m 208 ls [.int a, .int v0])) : W p l e room_1 s m #[Value.ref b] below meth c H locs 600000 7302250 Q (F0 m 205 ls [.int x0, .ref (ha 0), .int v0]) := by
  obtain ⟨hx, hb, hml, hown, hts, hN, hK⟩ := C
  obtain ⟨hP, hD, hS⟩ := hw
  obtain ⟨hPc, hDc⟩ := pw_sub _ (pw_appR (rw_c (cI := cI) (cJ := cJ) (cB := cB) (cZ := cZ) (cN := cN) (ha := ha) (NA := NA) (ND := ND) (r := R))) (pw_ndR (by decide)) hP hD
  have hFc := pw_free hDc hS (fun q h => h)
  refine va_calli (va_runV (As := [.int x0]) (rest := [.int v0]) ⟨hx, hb, hml, hown, hts⟩ (c_R_columns l dC dI cI cJ cB cZ cT cN H.size (ha 0) (NA 192) (NA 193) (NA 194) (NA 195) (NA 196) (NA 197) (NA 198) (NA 199) (ha 1) (ha 2) (ha 3) (ha 4) (ha 5) (ha 6) (ha 7) (ha 8) (ha 9) (ha 10) (ha 11) (ha 12) (ha 13) (ha 14) (ha 15) (ha 16) (ha 17) (ha 18) (ha 19) (ha 20) R.rows R.cols R.prime 4 R.els x0  a h) (cwV 1 hts (tb_V tw_465 tw_466 tw_467 tw_6 tw_468) rfl rfl rfl (by decide +kernel) ⟨Nat.le_of_ble_eq_true rfl, Nat.le_of_ble_eq_true rfl⟩) ⟨fun a U g mk q => by obtain ⟨q0, q1, qP, qK, qN, qD⟩ := q; exact ⟨q0, q1, qP, va_K.moved (u := U) (U := U.calling g mk a) (Vm.Alike.refl U.vm) qK, qN.same rfl, qD⟩, va_recv hK hPc (ci := 6) (q0 := 0) rfl rfl, fun U hU hW => ⟨rfl, by rw [hU], by rw [hU]; exact hPc, va_K.moved hW.alike hK, hN.warm hW, hDc.weaken (fun _ _ _ _ => trivial)⟩⟩ rfl rfl hl.1 rfl (lv_room (Nat.le_of_ble_eq_true rfl)) d_law_205 ⟨Nat.le_of_ble_eq_true rfl, Nat.le_of_ble_eq_true rfl⟩) hS (fun q _ h => hFc q h) hFc (fun rr u t1 H1 locs ht1 hvm hw hB hz1 hk1 hS => ?_)
  subst hw
  obtain ⟨hP1, -, hD1⟩ := hB
  rw [ht1] at hP1
  obtain ⟨hP, hD⟩ := pw_swapR (Y := RW cI cJ cB cZ cN ha NA ND R) (Y' := RW cI cJ cB cZ cN ha NA ND R) [0, 10] (rw_c (cI := cI) (cJ := cJ) (cB := cB) (cZ := cZ) (cN := cN) (ha := ha) (NA := NA) (ND := ND) (r := R)) (rw_c (cI := cI) (cJ := cJ) (cB := cB) (cZ := cZ) (cN := cN) (ha := ha) (NA := NA) (ND := ND) (r := R)) (fun _ => rfl) (fun _ _ => rfl) hP hD hk1 hP1
  exact kk H1 locs ⟨hP, hD, hS⟩
theorem y_rank (C : LX p s m c b dC dI cI cJ cB cZ cT cN) {x0 x : Int32} {a : Int32 × R15} {v0 : Int32} (h : f_R_rank R.rows R.cols R.prime R.small R.pivots R.fr R.fc R.sm R.flds R.rcs R.els R.nb R.kn R.rks R.rk R.sg R.ord R.szs R.pn R.pm R.pd x0 x = some a) (hw : LW s dC dI cI cJ cB cZ cT cN g ha NA ND K R H locs) (hl : lv_has ls 4 lv)
    (kk : ∀ (H : Heap) (locs : List Loc), LW s dC dI cI cJ cB cZ cT cN g ha NA ND K (rset R a.2) H locs → W p l e room_1 s m #[Value.ref b] below meth c H locs 600000 7302250 Q (F0 m 241 ls [.int a.1, .int v0])) : W p l e room_1 s m #[Value.ref b] below meth c H locs 600000 7302250 Q (F0 m 238 ls [.int x, .int x0, .ref (ha 0), .int v0]) := by
  obtain ⟨hx, hb, hml, hown, hts, hN, hK⟩ := C
  obtain ⟨hP, hD, hS⟩ := hw
  obtain ⟨hPc, hDc⟩ := pw_sub _ (pw_appR (pw_all rw_len)) (pw_ndR List.nodup_range) hP hD
  have hFc := pw_free hDc hS (fun q h => h)
  refine va_calli (va_runV (As := [.int x0, .int x]) (rest := [.int v0]) ⟨hx, hb, hml, hown, hts⟩ (c_R_rank l dC dI cI cJ cB cZ cT cN H.size ha NA ND R.rows R.cols R.prime R.small R.pivots R.fr R.fc R.sm R.flds R.rcs R.els R.nb R.kn R.rks R.rk R.sg R.ord R.szs R.cf R.cc R.so R.pn R.pm R.pd x0 x a h) (cwV 2 hts (tb_V tw_469 tw_470 tw_471 tw_6 tw_472) rfl rfl rfl (by decide +kernel) ⟨Nat.le_of_ble_eq_true rfl, Nat.le_of_ble_eq_true rfl⟩) ⟨fun a U g mk q => by obtain ⟨q0, q1, qP, qK, qN, qD⟩ := q; exact ⟨q0, q1, qP, va_K.moved (u := U) (U := U.calling g mk a) (Vm.Alike.refl U.vm) qK, qN.same rfl, qD⟩, va_recv hK hPc (ci := 6) (q0 := 0) rfl rfl, fun U hU hW => ⟨rfl, by rw [hU], by rw [hU]; exact hPc, va_K.moved hW.alike hK, hN.warm hW, hDc.weaken (fun _ _ _ _ => trivial)⟩⟩ rfl rfl hl.1 rfl (lv_room (Nat.le_of_ble_eq_true rfl)) d_law_238 ⟨Nat.le_of_ble_eq_true rfl, Nat.le_of_ble_eq_true rfl⟩) hS (fun q _ h => hFc q h) hFc (fun rr u t1 H1 locs ht1 hvm hw hB hz1 hk1 hS => ?_)
  subst hw
  obtain ⟨hP1, -, hD1⟩ := hB
  rw [ht1] at hP1
  have hP1 : va_P (dC, dI) cl_all (RW cI cJ cB cZ cN ha NA ND (rset R u)) H1 := hP1
  obtain ⟨hP, hD⟩ := pw_swapR (Y := RW cI cJ cB cZ cN ha NA ND R) (Y' := RW cI cJ cB cZ cN ha NA ND (rset R u)) (List.range 421) (pw_all rw_len) (pw_all rw_len) rw_adr (fun k h => by rw [List.mem_range] at h; rw [List.getElem?_eq_none (by rw [rw_len]; omega), List.getElem?_eq_none (by rw [rw_len]; omega)]) hP hD hk1 hP1
  exact kk H1 locs ⟨hP, hD, hS⟩
theorem y_count (C : LX p s m c b dC dI cI cJ cB cZ cT cN) {x0 x : Int32} {a : Int32 × R15} {v0 : Int32} (h : f_R_count R.rows R.cols R.prime R.small R.pivots R.fr R.fc R.sm R.flds R.rcs R.els R.nb R.kn R.rks R.rk R.sg R.ord R.szs R.pn R.pm R.pd x0 x = some a) (hw : LW s dC dI cI cJ cB cZ cT cN g ha NA ND K R H locs) (hl : lv_has ls 4 lv)
    (kk : ∀ (H : Heap) (locs : List Loc), LW s dC dI cI cJ cB cZ cT cN g ha NA ND K (rset R a.2) H locs → W p l e room_1 s m #[Value.ref b] below meth c H locs 600000 7302250 Q (F0 m 274 ls [.int a.1, .int v0])) : W p l e room_1 s m #[Value.ref b] below meth c H locs 600000 7302250 Q (F0 m 271 ls [.int x, .int x0, .ref (ha 0), .int v0]) := by
  obtain ⟨hx, hb, hml, hown, hts, hN, hK⟩ := C
  obtain ⟨hP, hD, hS⟩ := hw
  obtain ⟨hPc, hDc⟩ := pw_sub _ (pw_appR (pw_all rw_len)) (pw_ndR List.nodup_range) hP hD
  have hFc := pw_free hDc hS (fun q h => h)
  refine va_calli (va_runV (As := [.int x0, .int x]) (rest := [.int v0]) ⟨hx, hb, hml, hown, hts⟩ (c_R_count l dC dI cI cJ cB cZ cT cN H.size ha NA ND R.rows R.cols R.prime R.small R.pivots R.fr R.fc R.sm R.flds R.rcs R.els R.nb R.kn R.rks R.rk R.sg R.ord R.szs R.cf R.cc R.so R.pn R.pm R.pd x0 x a h) (cwV 2 hts (tb_V tw_606 tw_607 tw_608 tw_6 tw_609) rfl rfl rfl (by decide +kernel) ⟨Nat.le_of_ble_eq_true rfl, Nat.le_of_ble_eq_true rfl⟩) ⟨fun a U g mk q => by obtain ⟨q0, q1, qP, qK, qN, qD⟩ := q; exact ⟨q0, q1, qP, va_K.moved (u := U) (U := U.calling g mk a) (Vm.Alike.refl U.vm) qK, qN.same rfl, qD⟩, va_recv hK hPc (ci := 6) (q0 := 0) rfl rfl, fun U hU hW => ⟨rfl, by rw [hU], by rw [hU]; exact hPc, va_K.moved hW.alike hK, hN.warm hW, hDc.weaken (fun _ _ _ _ => trivial)⟩⟩ rfl rfl hl.1 rfl (lv_room (Nat.le_of_ble_eq_true rfl)) d_law_271 ⟨Nat.le_of_ble_eq_true rfl, Nat.le_of_ble_eq_true rfl⟩) hS (fun q _ h => hFc q h) hFc (fun rr u t1 H1 locs ht1 hvm hw hB hz1 hk1 hS => ?_)
  subst hw
  obtain ⟨hP1, -, hD1⟩ := hB
  rw [ht1] at hP1
  have hP1 : va_P (dC, dI) cl_all (RW cI cJ cB cZ cN ha NA ND (rset R u)) H1 := hP1
  obtain ⟨hP, hD⟩ := pw_swapR (Y := RW cI cJ cB cZ cN ha NA ND R) (Y' := RW cI cJ cB cZ cN ha NA ND (rset R u)) (List.range 421) (pw_all rw_len) (pw_all rw_len) rw_adr (fun k h => by rw [List.mem_range] at h; rw [List.getElem?_eq_none (by rw [rw_len]; omega), List.getElem?_eq_none (by rw [rw_len]; omega)]) hP hD hk1 hP1
  exact kk H1 locs ⟨hP, hD, hS⟩
theorem y_member (C : LX p s m c b dC dI cI cJ cB cZ cT cN) {x0 x i : Int32} {a : Int32 × R15} {v0 : Int32} (h : f_R_member R.rows R.cols R.prime R.small R.pivots R.fr R.fc R.sm R.flds R.rcs R.els R.nb R.kn R.rks R.rk R.sg R.ord R.szs R.pn R.pm R.pd x0 x i = some a) (hw : LW s dC dI cI cJ cB cZ cT cN g ha NA ND K R H locs) (hl : lv_has ls 4 lv)
    (kk : ∀ (H : Heap) (locs : List Loc), LW s dC dI cI cJ cB cZ cT cN g ha NA ND K (rset R a.2) H locs → W p l e room_1 s m #[Value.ref b] below meth c H locs 600000 7302250 Q (F0 m 317 ls [.int a.1, .int v0])) : W p l e room_1 s m #[Value.ref b] below meth c H locs 600000 7302250 Q (F0 m 314 ls [.int i, .int x, .int x0, .ref (ha 0), .int v0]) := by
  obtain ⟨hx, hb, hml, hown, hts, hN, hK⟩ := C
  obtain ⟨hP, hD, hS⟩ := hw
  obtain ⟨hPc, hDc⟩ := pw_sub _ (pw_appR (pw_all rw_len)) (pw_ndR List.nodup_range) hP hD
  have hFc := pw_free hDc hS (fun q h => h)
  refine va_calli (va_runV (As := [.int x0, .int x, .int i]) (rest := [.int v0]) ⟨hx, hb, hml, hown, hts⟩ (c_R_member l dC dI cI cJ cB cZ cT cN H.size ha NA ND R.rows R.cols R.prime R.small R.pivots R.fr R.fc R.sm R.flds R.rcs R.els R.nb R.kn R.rks R.rk R.sg R.ord R.szs R.cf R.cc R.so R.pn R.pm R.pd x0 x i a h) (cwV 3 hts (tb_V tw_634 tw_635 tw_636 tw_6 tw_637) rfl rfl rfl (by decide +kernel) ⟨Nat.le_of_ble_eq_true rfl, Nat.le_of_ble_eq_true rfl⟩) ⟨fun a U g mk q => by obtain ⟨q0, q1, qP, qK, qN, qD⟩ := q; exact ⟨q0, q1, qP, va_K.moved (u := U) (U := U.calling g mk a) (Vm.Alike.refl U.vm) qK, qN.same rfl, qD⟩, va_recv hK hPc (ci := 6) (q0 := 0) rfl rfl, fun U hU hW => ⟨rfl, by rw [hU], by rw [hU]; exact hPc, va_K.moved hW.alike hK, hN.warm hW, hDc.weaken (fun _ _ _ _ => trivial)⟩⟩ rfl rfl hl.1 rfl (lv_room (Nat.le_of_ble_eq_true rfl)) d_law_314 ⟨Nat.le_of_ble_eq_true rfl, Nat.le_of_ble_eq_true rfl⟩) hS (fun q _ h => hFc q h) hFc (fun rr u t1 H1 locs ht1 hvm hw hB hz1 hk1 hS => ?_)
  subst hw
  obtain ⟨hP1, -, hD1⟩ := hB
  rw [ht1] at hP1
  have hP1 : va_P (dC, dI) cl_all (RW cI cJ cB cZ cN ha NA ND (rset R u)) H1 := hP1
  obtain ⟨hP, hD⟩ := pw_swapR (Y := RW cI cJ cB cZ cN ha NA ND R) (Y' := RW cI cJ cB cZ cN ha NA ND (rset R u)) (List.range 421) (pw_all rw_len) (pw_all rw_len) rw_adr (fun k h => by rw [List.mem_range] at h; rw [List.getElem?_eq_none (by rw [rw_len]; omega), List.getElem?_eq_none (by rw [rw_len]; omega)]) hP hD hk1 hP1
  exact kk H1 locs ⟨hP, hD, hS⟩
theorem y_tutte (C : LX p s m c b dC dI cI cJ cB cZ cT cN) {x0 x y : Int32} {a : Int64 × Int32 × Int32 × Int32 × (Nat → Int32) × (Nat → Int32) × (Nat → Int32) × (Nat → Int32) × (Nat → Int32) × (Nat → Int32) × (Nat → Int32) × (Nat → Int32) × (Nat → Int32) × (Nat → Int32) × (Nat → Int32) × (Nat → Nat → Int32) × (Nat → Int64) × (Nat → Int64)} {v0 : Int64} (h : f_R_tutte R.rows R.cols R.prime R.small R.pivots R.fr R.fc R.sm R.flds R.rcs R.els R.nb R.kn R.rks R.rk R.sg R.ord R.szs R.cf R.cc R.pn R.pm R.pd x0 x y = some a) (hw : LW s dC dI cI cJ cB cZ cT cN g ha NA ND K R H locs) (hl : lv_has ls 4 lv)
    (kk : ∀ (H : Heap) (locs : List Loc), LW s dC dI cI cJ cB cZ cT cN g ha NA ND K (rtut R a.2) H locs → W p l e room_1 s m #[Value.ref b] below meth c H locs 600000 7302250 Q (F0 m 360 ls [.long a.1, .long v0])) : W p l e room_1 s m #[Value.ref b] below meth c H locs 600000 7302250 Q (F0 m 357 ls [.int y, .int x, .int x0, .ref (ha 0), .long v0]) := by
  obtain ⟨hx, hb, hml, hown, hts, hN, hK⟩ := C
  obtain ⟨hP, hD, hS⟩ := hw
  obtain ⟨hPc, hDc⟩ := pw_sub _ (pw_appR (pw_all rw_len)) (pw_ndR List.nodup_range) hP hD
  have hFc := pw_free hDc hS (fun q h => h)
  refine va_calll (va_runV (As := [.int x0, .int x, .int y]) (rest := [.long v0]) ⟨hx, hb, hml, hown, hts⟩ (c_R_tutte l dC dI cI cJ cB cZ cT cN H.size ha NA ND R.rows R.cols R.prime R.small R.pivots R.fr R.fc R.sm R.flds R.rcs R.els R.nb R.kn R.rks R.rk R.sg R.ord R.szs R.cf R.cc R.so R.pn R.pm R.pd x0 x y a h) (cwV 3 hts (tb_V tw_642 tw_643 tw_644 tw_6 tw_645) rfl rfl rfl (by decide +kernel) ⟨Nat.le_of_ble_eq_true rfl, Nat.le_of_ble_eq_true rfl⟩) ⟨fun a U g mk q => by obtain ⟨q0, q1, qP, qK, qN, qD⟩ := q; exact ⟨q0, q1, qP, va_K.moved (u := U) (U := U.calling g mk a) (Vm.Alike.refl U.vm) qK, qN.same rfl, qD⟩, va_recv hK hPc (ci := 6) (q0 := 0) rfl rfl, fun U hU hW => ⟨rfl, by rw [hU], by rw [hU]; exact hPc, va_K.moved hW.alike hK, hN.warm hW, hDc.weaken (fun _ _ _ _ => trivial)⟩⟩ rfl rfl hl.1 rfl (lv_room (Nat.le_of_ble_eq_true rfl)) d_law_357 ⟨Nat.le_of_ble_eq_true rfl, Nat.le_of_ble_eq_true rfl⟩) hS (fun q _ h => hFc q h) hFc (fun rr u t1 H1 locs ht1 hvm hw hB hz1 hk1 hS => ?_)
  subst hw
  obtain ⟨hP1, -, hD1⟩ := hB
  rw [ht1] at hP1
  have hP1 : va_P (dC, dI) cl_all (RW cI cJ cB cZ cN ha NA ND (rtut R u)) H1 := hP1
  obtain ⟨hP, hD⟩ := pw_swapR (Y := RW cI cJ cB cZ cN ha NA ND R) (Y' := RW cI cJ cB cZ cN ha NA ND (rtut R u)) (List.range 421) (pw_all rw_len) (pw_all rw_len) rw_adr (fun k h => by rw [List.mem_range] at h; rw [List.getElem?_eq_none (by rw [rw_len]; omega), List.getElem?_eq_none (by rw [rw_len]; omega)]) hP hD hk1 hP1
  exact kk H1 locs ⟨hP, hD, hS⟩
theorem y_sign (C : LX p s m c b dC dI cI cJ cB cZ cT cN) {x0 x : Int32} {a : Int32 × R15} {v0 : Int32} (h : f_R_sign R.rows R.cols R.prime R.small R.pivots R.fr R.fc R.sm R.flds R.rcs R.els R.nb R.kn R.rks R.rk R.sg R.ord R.szs R.pn R.pm R.pd x0 x = some a) (hw : LW s dC dI cI cJ cB cZ cT cN g ha NA ND K R H locs) (hl : lv_has ls 4 lv)
    (kk : ∀ (H : Heap) (locs : List Loc), LW s dC dI cI cJ cB cZ cT cN g ha NA ND K (rset R a.2) H locs → W p l e room_1 s m #[Value.ref b] below meth c H locs 600000 7302250 Q (F0 m 394 ls [.int a.1, .int v0])) : W p l e room_1 s m #[Value.ref b] below meth c H locs 600000 7302250 Q (F0 m 391 ls [.int x, .int x0, .ref (ha 0), .int v0]) := by
  obtain ⟨hx, hb, hml, hown, hts, hN, hK⟩ := C
  obtain ⟨hP, hD, hS⟩ := hw
  obtain ⟨hPc, hDc⟩ := pw_sub _ (pw_appR (pw_all rw_len)) (pw_ndR List.nodup_range) hP hD
  have hFc := pw_free hDc hS (fun q h => h)
  refine va_calli (va_runV (As := [.int x0, .int x]) (rest := [.int v0]) ⟨hx, hb, hml, hown, hts⟩ (c_R_sign l dC dI cI cJ cB cZ cT cN H.size ha NA ND R.rows R.cols R.prime R.small R.pivots R.fr R.fc R.sm R.flds R.rcs R.els R.nb R.kn R.rks R.rk R.sg R.ord R.szs R.cf R.cc R.so R.pn R.pm R.pd x0 x a h) (cwV 2 hts (tb_V tw_650 tw_651 tw_652 tw_6 tw_653) rfl rfl rfl (by decide +kernel) ⟨Nat.le_of_ble_eq_true rfl, Nat.le_of_ble_eq_true rfl⟩) ⟨fun a U g mk q => by obtain ⟨q0, q1, qP, qK, qN, qD⟩ := q; exact ⟨q0, q1, qP, va_K.moved (u := U) (U := U.calling g mk a) (Vm.Alike.refl U.vm) qK, qN.same rfl, qD⟩, va_recv hK hPc (ci := 6) (q0 := 0) rfl rfl, fun U hU hW => ⟨rfl, by rw [hU], by rw [hU]; exact hPc, va_K.moved hW.alike hK, hN.warm hW, hDc.weaken (fun _ _ _ _ => trivial)⟩⟩ rfl rfl hl.1 rfl (lv_room (Nat.le_of_ble_eq_true rfl)) d_law_391 ⟨Nat.le_of_ble_eq_true rfl, Nat.le_of_ble_eq_true rfl⟩) hS (fun q _ h => hFc q h) hFc (fun rr u t1 H1 locs ht1 hvm hw hB hz1 hk1 hS => ?_)
  subst hw
  obtain ⟨hP1, -, hD1⟩ := hB
  rw [ht1] at hP1
  have hP1 : va_P (dC, dI) cl_all (RW cI cJ cB cZ cN ha NA ND (rset R u)) H1 := hP1
  obtain ⟨hP, hD⟩ := pw_swapR (Y := RW cI cJ cB cZ cN ha NA ND R) (Y' := RW cI cJ cB cZ cN ha NA ND (rset R u)) (List.range 421) (pw_all rw_len) (pw_all rw_len) rw_adr (fun k h => by rw [List.mem_range] at h; rw [List.getElem?_eq_none (by rw [rw_len]; omega), List.getElem?_eq_none (by rw [rw_len]; omega)]) hP hD hk1 hP1
  exact kk H1 locs ⟨hP, hD, hS⟩
theorem y_below (C : LX p s m c b dC dI cI cJ cB cZ cT cN) {x0 x : Int32} {a : Int32 × Int32 × Int32 × Int32 × (Nat → Int32) × (Nat → Int32) × (Nat → Int32) × (Nat → Int32) × (Nat → Int32) × (Nat → Int32) × (Nat → Int32) × (Nat → Int32) × (Nat → Int32) × (Nat → Int32) × (Nat → Int32) × (Nat → Nat → Int32) × (Nat → Int32)} {v0 : Int32} (h : f_R_below R.rows R.cols R.prime R.small R.pivots R.fr R.fc R.sm R.flds R.rcs R.els R.nb R.kn R.rks R.rk R.sg R.ord R.szs R.so R.pn R.pm R.pd x0 x = some a) (hw : LW s dC dI cI cJ cB cZ cT cN g ha NA ND K R H locs) (hl : lv_has ls 4 lv)
    (kk : ∀ (H : Heap) (locs : List Loc), LW s dC dI cI cJ cB cZ cT cN g ha NA ND K (rbel R a.2) H locs → W p l e room_1 s m #[Value.ref b] below meth c H locs 600000 7302250 Q (F0 m 427 ls [.int a.1, .int v0])) : W p l e room_1 s m #[Value.ref b] below meth c H locs 600000 7302250 Q (F0 m 424 ls [.int x, .int x0, .ref (ha 0), .int v0]) := by
  obtain ⟨hx, hb, hml, hown, hts, hN, hK⟩ := C
  obtain ⟨hP, hD, hS⟩ := hw
  obtain ⟨hPc, hDc⟩ := pw_sub _ (pw_appR (pw_all rw_len)) (pw_ndR List.nodup_range) hP hD
  have hFc := pw_free hDc hS (fun q h => h)
  refine va_calli (va_runV (As := [.int x0, .int x]) (rest := [.int v0]) ⟨hx, hb, hml, hown, hts⟩ (c_R_below l dC dI cI cJ cB cZ cT cN H.size ha NA ND R.rows R.cols R.prime R.small R.pivots R.fr R.fc R.sm R.flds R.rcs R.els R.nb R.kn R.rks R.rk R.sg R.ord R.szs R.cf R.cc R.so R.pn R.pm R.pd x0 x a h) (cwV 2 hts (tb_V tw_654 tw_655 tw_656 tw_6 tw_657) rfl rfl rfl (by decide +kernel) ⟨Nat.le_of_ble_eq_true rfl, Nat.le_of_ble_eq_true rfl⟩) ⟨fun a U g mk q => by obtain ⟨q0, q1, qP, qK, qN, qD⟩ := q; exact ⟨q0, q1, qP, va_K.moved (u := U) (U := U.calling g mk a) (Vm.Alike.refl U.vm) qK, qN.same rfl, qD⟩, va_recv hK hPc (ci := 6) (q0 := 0) rfl rfl, fun U hU hW => ⟨rfl, by rw [hU], by rw [hU]; exact hPc, va_K.moved hW.alike hK, hN.warm hW, hDc.weaken (fun _ _ _ _ => trivial)⟩⟩ rfl rfl hl.1 rfl (lv_room (Nat.le_of_ble_eq_true rfl)) d_law_424 ⟨Nat.le_of_ble_eq_true rfl, Nat.le_of_ble_eq_true rfl⟩) hS (fun q _ h => hFc q h) hFc (fun rr u t1 H1 locs ht1 hvm hw hB hz1 hk1 hS => ?_)
  subst hw
  obtain ⟨hP1, -, hD1⟩ := hB
  rw [ht1] at hP1
  have hP1 : va_P (dC, dI) cl_all (RW cI cJ cB cZ cN ha NA ND (rbel R u)) H1 := hP1
  obtain ⟨hP, hD⟩ := pw_swapR (Y := RW cI cJ cB cZ cN ha NA ND R) (Y' := RW cI cJ cB cZ cN ha NA ND (rbel R u)) (List.range 421) (pw_all rw_len) (pw_all rw_len) rw_adr (fun k h => by rw [List.mem_range] at h; rw [List.getElem?_eq_none (by rw [rw_len]; omega), List.getElem?_eq_none (by rw [rw_len]; omega)]) hP hD hk1 hP1
  exact kk H1 locs ⟨hP, hD, hS⟩
end LawSteps2
