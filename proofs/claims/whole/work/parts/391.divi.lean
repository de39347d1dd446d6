def nab (pn : Nat → Int32) (pd : Nat → Nat → Int32) (k : Nat) : Nat := (nv (pd k) (pn k).toNatClampNeg).toNat
theorem nab_eq {pn pm : Nat → Int32} {pd : Nat → Nat → Int32} {V : Nat → Int} {k : Nat} (h : PO pn pm pd V) (hk : k < 200) (hs : sz (V k) 160) : nab pn pd k = (V k).natAbs := by
  obtain ⟨c, hc, hN⟩ := Nx_len (h k hk) hs
  have h1 := Nu_abs hN
  unfold nab
  rw [hN.1, nI_clamp (by omega), ← h1]
  exact Int.toNat_natCast _
/-- divisor: five becomes the greatest common divisor of the two; two, three, four are used -/
theorem dv_ok {pn pm : Nat → Int32} {pd : Nat → Nat → Int32} {V : Nat → Int} {a b : Nat} (h : PO pn pm pd V) (ha : a < 200) (hb : b < 200) (ha6 : a ≠ 196) (hb5 : b ≠ 195) (hb6 : b ≠ 196) (hsa : sz (V a) 150) (hsb : sz (V b) 150) : ok (f_R_divisor pn pm pd a b) (fun r => ∃ V', PO r.1 r.2.1 r.2.2 V' ∧ V' 196 = (Int.gcd (V a) (V b) : Nat) ∧ ∀ j, j ≠ 193 → j ≠ 194 → j ≠ 195 → j ≠ 196 → V' j = V j) := by
  unfold f_R_divisor
  refine ok_p ha (ok_p hb (ok_p (Ne.symm ha6) ?_))
  refine ok_b3 (xcp (h a ha) (sz_mono hsa (by decide))) ?_
  intro u1 u2 u3 hu
  refine ok_nm (fun pn5 e1 => ok_nm (fun pm6 e2 => ok_nm (fun pd7 e3 => ok_nm (fun pm15 e4 => ?_))))
  have h1 : PO pn5 pm6 pd7 (vu V 196 (V a)) := by rw [e1, e2, e3]; exact h.up hu
  have h2 : PO pn5 pm15 pd7 (vu (vu V 196 (V a)) 196 (V a).natAbs) := by
    have := h1.abs (k := 196) (by decide)
    rw [vu_s] at this
    rw [e4]; exact this
  clear e1 e2 e3 e4 h1 hu
  generalize hV2 : vu (vu V 196 (V a)) 196 (V a).natAbs = V2 at h2
  have hV2b : V2 b = V b := by rw [← hV2, vu_n hb6, vu_n hb6]
  refine ok_p (Ne.symm hb5) ?_
  refine ok_b3 (xcp (h2 b hb) (by rw [hV2b]; exact sz_mono hsb (by decide))) ?_
  intro u1' u2' u3' hu
  refine ok_nm (fun pn20 e1 => ok_nm (fun pm21 e2 => ok_nm (fun pd22 e3 => ok_nm (fun pm30 e4 => ?_))))
  have h3 : PO pn20 pm21 pd22 (vu V2 195 (V2 b)) := by rw [e1, e2, e3]; exact h2.up hu
  have h4 : PO pn20 pm30 pd22 (vu (vu V2 195 (V2 b)) 195 (V2 b).natAbs) := by
    have := h3.abs (k := 195) (by decide)
    rw [vu_s] at this
    rw [e4]; exact this
  clear e1 e2 e3 e4 h3 hu
  generalize hV4 : vu (vu V2 195 (V2 b)) 195 (V2 b).natAbs = V4 at h4
  have i1 : V4 195 = (V b).natAbs := by rw [← hV4, vu_s, hV2b]
  have i2 : V4 196 = (V a).natAbs := by rw [← hV4, vu_n (by decide), vu_n (by decide), ← hV2, vu_s]
  have i3 : ∀ j, j ≠ 193 → j ≠ 194 → j ≠ 195 → j ≠ 196 → V4 j = V j := by
    intro j _ _ q5 q6
    rw [← hV4, vu_n q5, vu_n q5, ← hV2, vu_n q6, vu_n q6]
  have na := sz_nat hsa
  have nb := sz_nat hsb
  have key : ∀ {pn : Nat → Int32} {pm : Nat → Int32} {pd : Nat → Nat → Int32} {W : Nat → Int} {x y : Nat}, PO pn pm pd W → W 196 = (x : Int) → W 195 = (y : Int) → x < 2 ^ (16 * 150) → y < 2 ^ (16 * 150) → nab pn pd 196 = x ∧ nab pn pd 195 = y := by
    intro pn pm pd W x y hP hx hy bx bY
    refine ⟨?_, ?_⟩
    · rw [nab_eq hP (by decide) (by rw [hx]; exact sz_mono (sz_of bx) (by decide)), hx]; exact Int.natAbs_natCast x
    · rw [nab_eq hP (by decide) (by rw [hy]; exact sz_mono (sz_of bY) (by decide)), hy]; exact Int.natAbs_natCast y
  refine lo3_F (fun pn pm pd => ∃ (W : Nat → Int) (x y : Nat), PO pn pm pd W ∧ W 196 = (x : Int) ∧ W 195 = (y : Int) ∧ x < 2 ^ (16 * 150) ∧ y < 2 ^ (16 * 150) ∧ Nat.gcd x y = Int.gcd (V a) (V b) ∧ ∀ j, j ≠ 193 → j ≠ 194 → j ≠ 195 → j ≠ 196 → W j = V j) (fun pn _ pd => meas (nab pn pd 196) (nab pn pd 195)) ?_ ⟨V4, (V a).natAbs, (V b).natAbs, h4, i2, i1, na, nb, rfl, i3⟩ ?_
  · rintro kr qn qm qd ⟨W, x, y, hP, hx, hy, bx, bY, hg, hj⟩ ih
    obtain ⟨n1, n2⟩ := key hP hx hy bx bY
    obtain ⟨c, hc, hN⟩ := Nx_len (hP 195 (by decide)) (by rw [hy]; exact sz_of bY)
    have hz := Nu_zero hN
    refine ok_if (fun q => ?_) (fun q => ?_)
    · rw [hN.1] at q
      have c0 := (nI_le0 (by omega)).mp q
      have y0 : y = 0 := by have := hz.mp c0; rw [hy] at this; omega
      refine ok_some ⟨W, hP, ?_, hj⟩
      rw [hx, ← hg, y0, Nat.gcd_zero_right]
    · have y0 : y ≠ 0 := by
        intro e
        apply q
        rw [hN.1]
        exact (nI_le0 (by omega)).mpr (hz.mpr (by rw [hy, e]; rfl))
      refine ok_p (by decide) ?_
      refine ok_b6 (xqt (hP 196 (by decide)) (hP 195 (by decide)) (by rw [hx]; exact sz_mono (sz_of bx) (by decide)) (by rw [hy]; exact sz_mono (sz_of bY) (by decide)) (by rw [hy]; omega)) ?_
      rintro v1 v2 v3 v4 v5 v6 ⟨hq, hr⟩
      dsimp only at hq hr
      refine ok_nm (fun pn42 e1 => ok_nm (fun pm43 e2 => ok_nm (fun pd44 e3 => ?_)))
      have g1 : PO pn42 pm43 pd44 (vu (vu W 194 ((W 196).tdiv (W 195))) 193 ((W 196).natAbs % (W 195).natAbs : Nat)) := by rw [e1, e2, e3]; exact (hP.up hq).up hr
      clear e1 e2 e3 hq hr
      generalize hW1 : vu (vu W 194 ((W 196).tdiv (W 195))) 193 ((W 196).natAbs % (W 195).natAbs : Nat) = W1 at g1
      have j5 : W1 195 = (y : Int) := by rw [← hW1, vu_n (by decide), vu_n (by decide), hy]
      have j3 : W1 193 = ((x % y : Nat) : Int) := by rw [← hW1, vu_s, hx, hy]; rfl
      refine ok_p (by decide) ?_
      refine ok_b3 (xcp (g1 195 (by decide)) (by rw [j5]; exact sz_mono (sz_of bY) (by decide))) ?_
      intro w1 w2 w3 hu
      refine ok_nm (fun pn62 e1 => ok_nm (fun pm63 e2 => ok_nm (fun pd64 e3 => ?_)))
      have g2 : PO pn62 pm63 pd64 (vu W1 196 (W1 195)) := by rw [e1, e2, e3]; exact g1.up hu
      clear e1 e2 e3 hu
      have hlt : x % y < 2 ^ (16 * 150) := Nat.lt_trans (Nat.mod_lt _ (by omega)) bY
      refine ok_p (by decide) ?_
      refine ok_b3 (xcp (g2 193 (by decide)) (by rw [vu_n (by decide), j3]; exact sz_mono (sz_of hlt) (by decide))) ?_
      intro w1' w2' w3' hu
      refine ok_nm (fun pn76 e1 => ok_nm (fun pm77 e2 => ok_nm (fun pd78 e3 => ?_)))
      have g3 : PO pn76 pm77 pd78 (vu (vu W1 196 (W1 195)) 195 (vu W1 196 (W1 195) 193)) := by rw [e1, e2, e3]; exact g2.up hu
      clear e1 e2 e3 hu
      have k6 : vu (vu W1 196 (W1 195)) 195 (vu W1 196 (W1 195) 193) 196 = (y : Int) := by rw [vu_n (by decide), vu_s, j5]
      have k5 : vu (vu W1 196 (W1 195)) 195 (vu W1 196 (W1 195) 193) 195 = ((x % y : Nat) : Int) := by rw [vu_s, vu_n (by decide), j3]
      obtain ⟨m1, m2⟩ := key g3 k6 k5 bY hlt
      refine ih _ _ _ ⟨_, y, x % y, g3, k6, k5, bY, hlt, ?_, ?_⟩ (by rw [n1, n2, m1, m2]; exact meas_lt y0)
      · rw [Nat.gcd_comm, ← Nat.gcd_rec, Nat.gcd_comm, hg]
      · intro j q3 q4 q5 q6
        rw [vu_n q5, vu_n q6, ← hW1, vu_n q3, vu_n q4]
        exact hj j q3 q4 q5 q6
  · obtain ⟨n1, n2⟩ := key h4 i2 i1 na nb
    rw [n1, n2]
    exact meas_bd na nb
