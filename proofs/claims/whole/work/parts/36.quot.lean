/-! how often one number is in another -/
theorem bw_div {y : Int64} (h1 : -4294967296 ≤ y.toInt) (h2 : y.toInt < 0) : ((65535 - y) / 65536).toInt = (65535 - y.toInt) / 65536 := by
  have e : (65535 : Int64).toInt = 65535 := rfl
  have h3 : (65535 - y).toInt = 65535 - y.toInt := by rw [l_sub (by rw [e]; omega) (by rw [e]; omega), e]
  rw [(l_dm (a := 65535 - y) (by omega)).1, h3]
theorem bw_v {m b : Int32} {c : Int64} {u : Int32} (hm0 : 0 ≤ m.toInt) (hm1 : m.toInt < 65536) (hc0 : 0 ≤ c.toInt) (hc1 : c.toInt < 65536) (hb0 : 0 ≤ b.toInt) (hb1 : b.toInt < 65536) (hu0 : 0 ≤ u.toInt) (hu1 : u.toInt < 65536) : (m.toInt64 - c - b.toInt64 * u.toInt64).toInt = m.toInt - c.toInt - b.toInt * u.toInt ∧ 0 ≤ b.toInt * u.toInt ∧ b.toInt * u.toInt ≤ 65535 * 65535 := by
  have p0 : 0 ≤ b.toInt * u.toInt := Int.mul_nonneg hb0 hu0
  have p1 : b.toInt * u.toInt ≤ 65535 * 65535 := Int.mul_le_mul (by omega) (by omega) hu0 (by decide)
  have h1 : (b.toInt64 * u.toInt64).toInt = b.toInt * u.toInt := by
    rw [l_mul (by rw [Int32.toInt_toInt64, Int32.toInt_toInt64]; omega) (by rw [Int32.toInt_toInt64, Int32.toInt_toInt64]; omega), Int32.toInt_toInt64, Int32.toInt_toInt64]
  have h2 : (m.toInt64 - c).toInt = m.toInt - c.toInt := by
    rw [l_sub (by rw [Int32.toInt_toInt64]; omega) (by rw [Int32.toInt_toInt64]; omega), Int32.toInt_toInt64]
  refine ⟨?_, p0, p1⟩
  rw [l_sub (by rw [h1, h2]; omega) (by rw [h1, h2]; omega), h1, h2]
/-- isAtMost: is b * u at most w (b no longer than w) -/
theorem am_ok {k l : Nat} {d e : Nat → Int32} {u : Int32} (hk : k ≤ 160) (hl : l ≤ k) (hd : dg d k) (he : dg e l) (hu0 : 0 ≤ u.toInt) (hu1 : u.toInt < 65536) : ok (f_N_isAtMost (nI l) 160 e (nI k) 160 d u) (fun r => r = if nv e l * u.toInt ≤ nv d k then 1 else 0) := by
  unfold f_N_isAtMost
  refine ok_jn (fun k79 => ∀ (c : Int64) (r : Int), 0 ≤ c.toInt → c.toInt < 65536 → 0 ≤ r → r < 65536 ^ k → nv d k - u.toInt * nv e l = r - c.toInt * 65536 ^ k → ok (k79 c) (fun r => r = if nv e l * u.toInt ≤ nv d k then 1 else 0)) ?_ ?_
  · intro c r hc0 hc1 hr0 hr1 h
    have hp := pw_pos k
    refine ok_if (fun q => ?_) (fun q => ?_)
    · have q1 := (lc_eq c).mp q
      rw [q1] at h
      refine ok_some ?_
      rw [if_pos (by rw [Int.mul_comm]; omega)]
    · have q1 : c.toInt ≠ 0 := fun e => q ((lc_eq c).mpr e)
      have q2 : 1 * 65536 ^ k ≤ c.toInt * 65536 ^ k := Int.mul_le_mul_of_nonneg_right (by omega) (Int.le_of_lt hp)
      refine ok_some ?_
      rw [if_neg (by rw [Int.mul_comm]; omega)]
  · intro k79 hC
    refine lo2_F (fun v c => ∃ i, i ≤ k ∧ v = nI i ∧ 0 ≤ c.toInt ∧ c.toInt < 65536 ∧ ∃ r : Int, 0 ≤ r ∧ r < 65536 ^ i ∧ nv d i - u.toInt * nv (zx e l) i = r - c.toInt * 65536 ^ i) (fun v _ => k - v.toNatClampNeg) ?_ ⟨0, Nat.zero_le k, nI_0.symm, by decide, by decide, 0, by decide, by decide, by simp [nv]⟩ (by omega)
    rintro kr v c ⟨i, hi, rfl, hc0, hc1, r, hr0, hr1, h⟩ ih
    refine ok_if (fun q => ?_) (fun q => ?_)
    · have e0 : i = k := by
        have := (nI_leI (by omega) (by omega)).mp q
        omega
      subst e0
      rw [zx_nv hl] at h
      exact hC c r hc0 hc1 hr0 hr1 h
    · have hlt : i < k := by
        rcases Nat.lt_or_ge i k with h | h
        · exact h
        · exact absurd ((nI_leI (by omega) (by omega)).mpr h) q
      refine ok_in (vp_in_nI (by omega) (by decide)) ?_
      obtain ⟨d0, d1⟩ := hd i hlt
      obtain ⟨z0, z1⟩ := zx_dg he i
      refine ok_jn (fun kk => ok (kk ((zx e l i).toInt64 * u.toInt64)) (fun r => r = if nv e l * u.toInt ≤ nv d k then 1 else 0)) ?_ ?_
      · refine ok_nm (fun y hy => ?_)
        rw [nI_clamp (by omega)] at hy
        obtain ⟨hv, p0, p1⟩ := bw_v (m := d i) (b := zx e l i) (c := c) (u := u) d0 d1 hc0 hc1 z0 z1 hu0 hu1
        rw [← hy] at hv
        refine ok_jn (fun kk => ∀ c' : Int64, 0 ≤ c'.toInt → c'.toInt < 65536 → 0 ≤ y.toInt + 65536 * c'.toInt → y.toInt + 65536 * c'.toInt < 65536 → ok (kk c') (fun r => r = if nv e l * u.toInt ≤ nv d k then 1 else 0)) ?_ ?_
        · intro c' h0 h1 h2 h3
          refine ok_nm (fun v' hv' => ?_)
          subst hv'
          rw [nI_1]
          refine ih _ _ ⟨i + 1, hlt, rfl, h0, h1, r + (y.toInt + 65536 * c'.toInt) * 65536 ^ i, ?_, ?_, ?_⟩ (by rw [nI_clamp (by omega), nI_clamp (by omega)]; omega)
          · exact Int.add_nonneg hr0 (Int.mul_nonneg h2 (Int.le_of_lt (pw_pos i)))
          · have : (y.toInt + 65536 * c'.toInt) * 65536 ^ i ≤ 65535 * 65536 ^ i := Int.mul_le_mul_of_nonneg_right (by omega) (Int.le_of_lt (pw_pos i))
            rw [Int.pow_succ]; omega
          · simp only [nv]
            rw [Int.pow_succ, hv]
            generalize (65536 : Int) ^ i = p at *
            grind
        · intro kk hk2
          refine ok_if (fun q2 => ?_) (fun q2 => ?_)
          · have h0 := (lc_ge y).mp q2
            have e : (0 : Int64).toInt = 0 := rfl
            exact hk2 0 (by decide) (by decide) (by rw [e]; omega) (by rw [e]; omega)
          · have h0 : ¬ 0 ≤ y.toInt := fun h => q2 ((lc_ge y).mpr h)
            have h1 := bw_div (y := y) (by omega) (by omega)
            exact hk2 _ (by rw [h1]; omega) (by rw [h1]; omega) (by rw [h1]; omega) (by rw [h1]; omega)
      · intro kk hk2
        refine ok_if (fun q2 => ?_) (fun q2 => ?_)
        · have h1 := (nI_leI (by omega) (by omega)).mp q2
          have e0 : zx e l i = 0 := if_neg (by omega)
          rw [e0] at hk2
          have e1 : (0 : Int32).toInt64 * u.toInt64 = 0 := by
            apply Int64.toInt_inj.mp
            rw [Int64.toInt_mul]; simp
          rw [e1] at hk2; exact hk2
        · have h1 : i < l := by
            rcases Nat.lt_or_ge i l with h | h
            · exact h
            · exact absurd ((nI_leI (by omega) (by omega)).mpr h) q2
          refine ok_in (vp_in_nI (by omega) (by decide)) ?_
          have e0 : zx e l i = e i := if_pos h1
          rw [nI_clamp (by omega), ← e0]; exact hk2
