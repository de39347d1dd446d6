theorem of_sub {R : Type} {Q : R → Prop} {kk : (Nat → Int32) → Option R} {k l : Nat} {d e : Nat → Int32} {u : Int32} (hk : k ≤ 160) (hl : l ≤ k) (hd : dg d k) (he : dg e l) (hu0 : 0 ≤ u.toInt) (hu1 : u.toInt < 65536) (hge : nv e l * u.toInt ≤ nv d k) (hC : ∀ w : Nat → Int32, dg w k → nv w k = nv d k - nv e l * u.toInt → ok (kk w) Q) :
    ok (lo3 (fun k_49 (v6_6 : Int32) (v4_7 : Int64) (w_8 : Nat → Int32) => ck_if (nI k ≤ v6_6) (kk w_8) (ck_in v6_6 160 <| ck_jn (fun (s0_11 : Int64) => ck_nm ((((w_8 v6_6.toNatClampNeg).toInt64) - v4_7) - s0_11) <| fun x_12 => ck_jn (fun (s0_13 : Int64) => ck_in v6_6 160 <| ck_nm (v6_6 + 1) <| fun x_15 => k_49 x_15 s0_13 (upd w_8 v6_6.toNatClampNeg ((x_12 + (65536 * s0_13)).toInt32))) <| fun k_117 => ck_if (0 ≤ (lg_cmp x_12 0)) (k_117 0) (k_117 ((65535 - x_12) / 65536))) <| fun k_93 => ck_if (nI l ≤ v6_6) (k_93 0) (ck_in v6_6 160 <| k_93 (((e v6_6.toNatClampNeg).toInt64) * u.toInt64)))) ck_F 0 0 d) Q := by
  refine lo3_F (fun v c w => ∃ i, i ≤ k ∧ v = nI i ∧ 0 ≤ c.toInt ∧ c.toInt < 65536 ∧ dg w i ∧ (∀ p, i ≤ p → w p = d p) ∧ nv d i - u.toInt * nv (zx e l) i = nv w i - c.toInt * 65536 ^ i) (fun v _ _ => k - v.toNatClampNeg) ?_ ⟨0, Nat.zero_le k, nI_0.symm, by decide, by decide, fun j hj => absurd hj (by omega), fun _ _ => rfl, by simp [nv]⟩ (by omega)
  rintro kr v c w ⟨i, hi, rfl, hc0, hc1, hw, hsame, h⟩ ih
  refine ok_if (fun q => ?_) (fun q => ?_)
  · have e0 : i = k := by
      have := (nI_leI (by omega) (by omega)).mp q
      omega
    subst e0
    rw [zx_nv hl] at h
    have h1 := nv_lt hw
    have hp := pw_pos i
    have hc : c.toInt = 0 := by
      rcases Int.lt_or_le 0 c.toInt with q1 | q1
      · have q2 : 1 * 65536 ^ i ≤ c.toInt * 65536 ^ i := Int.mul_le_mul_of_nonneg_right (by omega) (Int.le_of_lt hp)
        rw [Int.mul_comm] at hge
        omega
      · omega
    rw [hc] at h
    refine hC w hw ?_
    rw [Int.mul_comm (nv e l)]
    omega
  · have hlt : i < k := by
      rcases Nat.lt_or_ge i k with h | h
      · exact h
      · exact absurd ((nI_leI (by omega) (by omega)).mpr h) q
    refine ok_in (vp_in_nI (by omega) (by decide)) ?_
    obtain ⟨d0, d1⟩ := hd i hlt
    obtain ⟨z0, z1⟩ := zx_dg he i
    refine ok_jn (fun kk1 => ok (kk1 ((zx e l i).toInt64 * u.toInt64)) Q) ?_ ?_
    · refine ok_nm (fun y hy => ?_)
      rw [nI_clamp (by omega), hsame i (Nat.le_refl i)] at hy
      obtain ⟨hv, p0, p1⟩ := bw_v (m := d i) (b := zx e l i) (c := c) (u := u) d0 d1 hc0 hc1 z0 z1 hu0 hu1
      rw [← hy] at hv
      refine ok_jn (fun kk2 => ∀ c' : Int64, 0 ≤ c'.toInt → c'.toInt < 65536 → 0 ≤ y.toInt + 65536 * c'.toInt → y.toInt + 65536 * c'.toInt < 65536 → ok (kk2 c') Q) ?_ ?_
      · intro c' h0 h1 h2 h3
        refine ok_in (vp_in_nI (by omega) (by decide)) ?_
        refine ok_nm (fun v' hv' => ?_)
        subst hv'
        rw [nI_1, nI_clamp (by omega)]
        have e0 : (65536 : Int64).toInt = 65536 := rfl
        have e1 : (65536 * c').toInt = 65536 * c'.toInt := by rw [l_mul (by rw [e0]; omega) (by rw [e0]; omega), e0]
        have e2 : (y + 65536 * c').toInt = y.toInt + 65536 * c'.toInt := by rw [l_add (by rw [e1]; omega) (by rw [e1]; omega), e1]
        have e3 : (y + 65536 * c').toInt32.toInt = y.toInt + 65536 * c'.toInt := by rw [l_i (by rw [e2]; omega) (by rw [e2]; omega), e2]
        refine ih _ _ _ ⟨i + 1, hlt, rfl, h0, h1, dg_upd hw (by rw [e3]; omega) (by rw [e3]; omega), fun p hp => by rw [pk_un (by omega)]; exact hsame p (by omega), ?_⟩ (by rw [nI_clamp (by omega), nI_clamp (by omega)]; omega)
        rw [nv_upd, e3, Int.pow_succ, hv]
        simp only [nv]
        generalize (65536 : Int) ^ i = p at *
        grind
      · intro kk2 hk2
        refine ok_if (fun q2 => ?_) (fun q2 => ?_)
        · have h0 := (lc_ge y).mp q2
          have e : (0 : Int64).toInt = 0 := rfl
          exact hk2 0 (by decide) (by decide) (by rw [e]; omega) (by rw [e]; omega)
        · have h0 : ¬ 0 ≤ y.toInt := fun h => q2 ((lc_ge y).mpr h)
          have h1 := bw_div (y := y) (by omega) (by omega)
          exact hk2 _ (by rw [h1]; omega) (by rw [h1]; omega) (by rw [h1]; omega) (by rw [h1]; omega)
    · intro kk1 hk2
      refine ok_if (fun q2 => ?_) (fun q2 => ?_)
      · have h1 := (nI_leI (by omega) (by omega)).mp q2
        have e0 : zx e l i = 0 := if_neg (by omega)
        rw [e0] at hk2
        have e1 : (0 : Int32).toInt64 * u.toInt64 = 0 := by
          apply Int64.toInt_inj.mp
          rw [Int64.toInt_mul]; simp
        rw [e1] at hk2; exact hk2
      · have h1 : i < l := by
          rcases Nat.lt_or_ge i l with h | h
          · exact h
          · exact absurd ((nI_leI (by omega) (by omega)).mpr h) q2
        refine ok_in (vp_in_nI (by omega) (by decide)) ?_
        have e0 : zx e l i = e i := if_pos h1
        rw [nI_clamp (by omega), ← e0]; exact hk2
/-- often: the digit of the quotient, and what is left -/
theorem of_ok {k l : Nat} {d e : Nat → Int32} (hk : k ≤ 160) (hl : l ≤ k) (hd : dg d k) (he : dg e l) (h1 : nv e l ≤ nv d k) (h2 : nv d k < nv e l * 65536) : ok (f_N_often (nI k) 0 160 d (nI l) 160 e) (fun r => ∃ q k' : Nat, 1 ≤ q ∧ q < 65536 ∧ k' ≤ k ∧ r.1 = nI q ∧ r.2.1 = nI k' ∧ r.2.2.1 = 0 ∧ dg r.2.2.2 k' ∧ nt r.2.2.2 k' ∧ nv r.2.2.2 k' = nv d k - nv e l * q ∧ nv d k < nv e l * (q + 1)) := by
  have hpos := nv_nn he
  unfold f_N_often
  refine ok_jn (fun k43 => ∀ q : Nat, 1 ≤ q → q < 65536 → nv e l * q ≤ nv d k → nv d k < nv e l * (q + 1) → ok (k43 (nI q)) (fun r => ∃ q k' : Nat, 1 ≤ q ∧ q < 65536 ∧ k' ≤ k ∧ r.1 = nI q ∧ r.2.1 = nI k' ∧ r.2.2.1 = 0 ∧ dg r.2.2.2 k' ∧ nt r.2.2.2 k' ∧ nv r.2.2.2 k' = nv d k - nv e l * q ∧ nv d k < nv e l * (q + 1))) ?_ ?_
  · intro q hq1 hq2 hle hlt
    have hqi : (nI q).toInt = (q : Int) := nI_toInt (by omega)
    refine ok_jn (fun k142 => ∀ w : Nat → Int32, dg w k → nv w k = nv d k - nv e l * (nI q).toInt → ok (k142 w) (fun r => ∃ q k' : Nat, 1 ≤ q ∧ q < 65536 ∧ k' ≤ k ∧ r.1 = nI q ∧ r.2.1 = nI k' ∧ r.2.2.1 = 0 ∧ dg r.2.2.2 k' ∧ nt r.2.2.2 k' ∧ nv r.2.2.2 k' = nv d k - nv e l * q ∧ nv d k < nv e l * (q + 1))) ?_ ?_
    · intro w hw hv
      refine ok_b2 (tr_ok hk (Or.inl rfl)) ?_
      rintro u1 u2 ⟨k', g1, g2, g3, g4, g5⟩
      dsimp only at g2 g5
      refine ok_some ⟨q, k', hq1, hq2, g1, rfl, g2, by rw [g5]; split <;> rfl, dg_le hw g1, g3, ?_, hlt⟩
      dsimp only
      rw [g4, hv, hqi]
    · intro k142 hC
      exact of_sub hk hl hd he (by rw [hqi]; omega) (by rw [hqi]; omega) (by rw [hqi]; exact hle) hC
  · intro k43 hC
    refine lo2_F (fun hi lo => ∃ a b : Nat, lo = nI a ∧ hi = nI b ∧ 1 ≤ a ∧ a ≤ b ∧ b < 65536 ∧ nv e l * a ≤ nv d k ∧ nv d k < nv e l * (b + 1)) (fun hi lo => hi.toNatClampNeg - lo.toNatClampNeg) ?_ ⟨1, 65535, rfl, rfl, by omega, by omega, by omega, by simpa using h1, by simpa using h2⟩ (by decide)
    rintro kr hi lo ⟨a, b, rfl, rfl, ha, hab, hb, hle, hlt⟩ ih
    refine ok_if (fun q => ?_) (fun q => ?_)
    · have := (nI_leI (by omega) (by omega)).mp q
      have e0 : a = b := by omega
      subst e0
      exact hC a ha hb hle hlt
    · have hlt2 : a < b := by
        rcases Nat.lt_or_ge a b with h | h
        · exact h
        · exact absurd ((nI_leI (by omega) (by omega)).mpr h) q
      refine ok_nm (fun m hm => ?_)
      rw [nI_add, nI_1, show (2 : Int32) = nI 2 from rfl, pk_div (by omega) (by omega) (by omega)] at hm
      generalize hmd : (a + b + 1) / 2 = md at hm
      have m1 : a < md := by omega
      have m2 : md ≤ b := by omega
      subst hm
      have hmi : (nI md).toInt = (md : Int) := nI_toInt (by omega)
      refine ok_b1 (am_ok (u := nI md) hk hl hd he (by rw [hmi]; omega) (by rw [hmi]; omega)) ?_
      rintro r5 hr
      rw [hmi] at hr
      refine ok_jn (fun k40 => ∀ a' b' : Nat, 1 ≤ a' → a' ≤ b' → b' < 65536 → b' - a' < b - a → nv e l * a' ≤ nv d k → nv d k < nv e l * (b' + 1) → ok (k40 (nI a') (nI b')) (fun r => ∃ q k' : Nat, 1 ≤ q ∧ q < 65536 ∧ k' ≤ k ∧ r.1 = nI q ∧ r.2.1 = nI k' ∧ r.2.2.1 = 0 ∧ dg r.2.2.2 k' ∧ nt r.2.2.2 k' ∧ nv r.2.2.2 k' = nv d k - nv e l * q ∧ nv d k < nv e l * (q + 1))) ?_ ?_
      · intro a' b' g1 g2 g3 g4 g5 g6
        exact ih (nI b') (nI a') ⟨a', b', rfl, rfl, g1, g2, g3, g5, g6⟩ (by rw [nI_clamp (by omega), nI_clamp (by omega), nI_clamp (by omega), nI_clamp (by omega)]; omega)
      · intro k40 hk40
        by_cases hle2 : nv e l * (md : Int) ≤ nv d k
        · rw [if_pos hle2] at hr
          subst hr
          refine ok_if (fun q => absurd q (by decide)) (fun _ => ?_)
          exact hk40 md b (by omega) m2 hb (by omega) hle2 hlt
        · rw [if_neg hle2] at hr
          subst hr
          refine ok_if (fun _ => ?_) (fun q => absurd rfl q)
          refine ok_nm (fun h' hh' => ?_)
          obtain ⟨j, rfl⟩ : ∃ j, md = j + 1 := ⟨md - 1, by omega⟩
          rw [nI_pred] at hh'
          subst hh'
          refine hk40 a j ha (by omega) (by omega) (by omega) hle ?_
          push_cast at hle2
          omega
