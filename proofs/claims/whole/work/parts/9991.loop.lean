theorem law_cond {L i : Nat} (hL : L ≤ 2560) (hi : i ≤ L) (h : ¬ Int32.ofNat L - 5 < nI i) : i + 5 ≤ L := by
  rw [i_lt] at h
  have h1 : (Int32.ofNat L).toInt = (L : Int) := nI_toInt (n := L) (by omega)
  have h5 : (5 : Int32).toInt = 5 := by decide
  have h2 : (Int32.ofNat L - 5).toInt = (L : Int) - 5 := by
    rw [i_sub (by rw [h1, h5]; omega) (by rw [h1, h5]; omega), h1, h5]
  rw [h2, nI_toInt (by omega)] at h
  omega
set_option maxHeartbeats 4000000 in
theorem law_loop {p : Program} {l : Launch} {e : Env} {s : State} {m : MethodId} {below : List Frame} {meth : Method} {c : Code} {b L : Nat} {xs : Nat → Int32} {dC : Nat → ClassId} {dI : Nat → Nat → Nat} {cI cJ cB cZ cT cN : ClassId} {g ha NA ND : Nat → Nat} (C : LX p s m c b dC dI cI cJ cB cZ cT cN) (hr : meth.sig.returnType = ret) (hlocks : meth.locks = false) (hL : L ≤ 2560) (hX : va_X b L xs s s.heap) (hbl : b < s.heap.size) :
    ∀ (n i : Nat), i ≤ L → L + 1 ≤ i + n → ∀ (K : KS) (R : RS) (H : Heap) (locs : List Loc) (ls : Array Slot), J K R → LW s dC dI cI cJ cB cZ cT cN g ha NA ND K R H locs → lv_has ls 4 [(0, .ref b), (1, .ref (g 0)), (2, .ref (ha 0)), (3, .int (nI i))] → W p l e room_1 s m #[Value.ref b] below meth c H locs 600000 7302250 (lw_Z below #[Value.ref b] s) (F0 m 18 ls []) := by
  have hx := C.1
  have hb := C.2.1
  intro n
  induction n with
  | zero =>
    intro i h1 h2
    exact absurd h2 (by omega)
  | succ n ih =>
    intro i hi hin K R H locs ls hJ hw hl
    refine lv_iload_n hx hb d_law_18 rfl (lv_at hl 3 rfl) ?_
    refine lv_aload_n hx hb d_law_19 rfl (lv_at hl 0 rfl) ?_
    refine va_slen hx hb hX hbl (Nat.not_le.mpr hbl) hw.2.2 d_law_20 ?_
    refine lv_iconst (v := 5) hx hb d_law_21 (by decide) ?_
    refine lv_isub hx hb d_law_22 ?_
    refine lv_icmp_gt (tgt := 438) hx hb d_law_23 (by decide) (fun _ => ?_) (fun h5 => ?_)
    · refine lv_iconst (v := 1) hx hb d_law_438 (by decide) ?_
      refine va_forget (fun q hq => hw.2.2.2.2 q hq) ?_
      exact lw_ret hx hb hr hlocks d_law_439
    · have h5 := law_cond hL hi h5
      have kk : ∀ (K : KS) (R : RS) (H : Heap) (locs : List Loc), J K R → LW s dC dI cI cJ cB cZ cT cN g ha NA ND K R H locs → W p l e room_1 s m #[Value.ref b] below meth c H locs 600000 7302250 (lw_Z below #[Value.ref b] s) (F0 m 432 ls []) := by
        intro K R H locs hJ hw
        refine lv_iinc (v := nI (i + 5)) (lv' := [(3, .int (nI (i + 5))), (0, .ref b), (1, .ref (g 0)), (2, .ref (ha 0))]) hx hb d_law_432 hl (k := 3) rfl (nI_add i 5) (by decide) rfl (fun ls hl => ?_)
        refine lv_goto (tgt := 18) hx hb d_law_435 (by decide) ?_
        exact ih (i + 5) h5 (by omega) K R H locs ls hJ hw (lv_sub hl [1, 2, 3, 0] rfl)
      refine lv_aload_n hx hb d_law_26 rfl (lv_at hl 0 rfl) ?_
      refine lv_iload_n hx hb d_law_27 rfl (lv_at hl 3 rfl) ?_
      refine va_sld hx hb hX hbl (Nat.not_le.mpr hbl) hw.2.2 (vp_in_nI (show i < L by omega) (by omega)) d_law_28 ?_
      refine lv_bipush (v := 15) hx hb d_law_29 (by decide) ?_
      refine lv_iand hx hb d_law_31 ?_
      generalize xs (nI i).toNatClampNeg &&& 15 = y
      by_cases c0 : y = 0
      · refine lv_tableIn (tgt := 84) (off := 52) hx hb d_law_32 (by rw [c0]; decide) (by rw [c0]; decide) (by rw [c0]; rfl) (by decide) ?_
        exact law_begin C hL h5 hX hbl hl hJ hw kk
      by_cases c1 : y = 1
      · refine lv_tableIn (tgt := 137) (off := 105) hx hb d_law_32 (by rw [c1]; decide) (by rw [c1]; decide) (by rw [c1]; rfl) (by decide) ?_
        exact law_put C hL h5 hX hbl hl hJ hw kk
      by_cases c2 : y = 2
      · refine lv_tableIn (tgt := 190) (off := 158) hx hb d_law_32 (by rw [c2]; decide) (by rw [c2]; decide) (by rw [c2]; rfl) (by decide) ?_
        exact law_columns C hL h5 hX hbl hl hJ hw kk
      by_cases c3 : y = 3
      · refine lv_tableIn (tgt := 213) (off := 181) hx hb d_law_32 (by rw [c3]; decide) (by rw [c3]; decide) (by rw [c3]; rfl) (by decide) ?_
        exact law_rank C hL h5 hX hbl hl hJ hw kk
      by_cases c4 : y = 4
      · refine lv_tableIn (tgt := 246) (off := 214) hx hb d_law_32 (by rw [c4]; decide) (by rw [c4]; decide) (by rw [c4]; rfl) (by decide) ?_
        exact law_count C hL h5 hX hbl hl hJ hw kk
      by_cases c5 : y = 5
      · refine lv_tableIn (tgt := 279) (off := 247) hx hb d_law_32 (by rw [c5]; decide) (by rw [c5]; decide) (by rw [c5]; rfl) (by decide) ?_
        exact law_member C hL h5 hX hbl hl hJ hw kk
      by_cases c6 : y = 6
      · refine lv_tableIn (tgt := 322) (off := 290) hx hb d_law_32 (by rw [c6]; decide) (by rw [c6]; decide) (by rw [c6]; rfl) (by decide) ?_
        exact law_tutte C hL h5 hX hbl hl hJ hw kk
      by_cases c7 : y = 7
      · refine lv_tableIn (tgt := 366) (off := 334) hx hb d_law_32 (by rw [c7]; decide) (by rw [c7]; decide) (by rw [c7]; rfl) (by decide) ?_
        exact law_sign C hL h5 hX hbl hl hJ hw kk
      by_cases c8 : y = 8
      · refine lv_tableIn (tgt := 399) (off := 367) hx hb d_law_32 (by rw [c8]; decide) (by rw [c8]; decide) (by rw [c8]; rfl) (by decide) ?_
        exact law_below C hL h5 hX hbl hl hJ hw kk
      have n0 : y.toInt ≠ 0 := fun h => c0 (Int32.toInt_inj.mp (by rw [h]; rfl))
      have n1 : y.toInt ≠ 1 := fun h => c1 (Int32.toInt_inj.mp (by rw [h]; rfl))
      have n2 : y.toInt ≠ 2 := fun h => c2 (Int32.toInt_inj.mp (by rw [h]; rfl))
      have n3 : y.toInt ≠ 3 := fun h => c3 (Int32.toInt_inj.mp (by rw [h]; rfl))
      have n4 : y.toInt ≠ 4 := fun h => c4 (Int32.toInt_inj.mp (by rw [h]; rfl))
      have n5 : y.toInt ≠ 5 := fun h => c5 (Int32.toInt_inj.mp (by rw [h]; rfl))
      have n6 : y.toInt ≠ 6 := fun h => c6 (Int32.toInt_inj.mp (by rw [h]; rfl))
      have n7 : y.toInt ≠ 7 := fun h => c7 (Int32.toInt_inj.mp (by rw [h]; rfl))
      have n8 : y.toInt ≠ 8 := fun h => c8 (Int32.toInt_inj.mp (by rw [h]; rfl))
      refine lv_tableOut (tgt := 432) hx hb d_law_32 (by omega) (by decide) ?_
      exact kk K R H locs hJ hw
