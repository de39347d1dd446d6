/-! the difference of two numbers -/
def zx (d : Nat → Int32) (k : Nat) : Nat → Int32 := fun j => if j < k then d j else 0
theorem zx_nv {d : Nat → Int32} {k i : Nat} (h : k ≤ i) : nv (zx d k) i = nv d k := by
  induction i with
  | zero => have : k = 0 := by omega
            subst this; rfl
  | succ i ih =>
    by_cases q : k ≤ i
    · simp only [nv]
      rw [ih q, zx, if_neg (by omega)]
      simp
    · have : k = i + 1 := by omega
      subst this
      exact nv_congr (fun j hj => if_pos hj)
theorem zx_dg {d : Nat → Int32} {k : Nat} (h : dg d k) (j : Nat) : 0 ≤ (zx d k j).toInt ∧ (zx d k j).toInt < 65536 := by
  unfold zx
  by_cases q : j < k
  · rw [if_pos q]; exact h j q
  · rw [if_neg q]; exact ⟨by decide, by decide⟩
theorem nv_upd {w : Nat → Int32} {i : Nat} {z : Int32} : nv (upd w i z) (i + 1) = nv w i + z.toInt * 65536 ^ i := by
  simp only [nv]
  rw [pk_us, nv_congr (fun j hj => pk_un (by omega))]
theorem dg_upd {w : Nat → Int32} {i : Nat} {z : Int32} (hw : dg w i) (h0 : 0 ≤ z.toInt) (h1 : z.toInt < 65536) : dg (upd w i z) (i + 1) := by
  intro j hj
  by_cases q : j = i
  · subst q; rw [pk_us]; exact ⟨h0, h1⟩
  · rw [pk_un q]; exact hw j (by omega)
/-- (n, mi, d) is the number v, of k digits -/
def Nu (n mi : Int32) (d : Nat → Int32) (k : Nat) (v : Int) : Prop := n = nI k ∧ dg d k ∧ nt d k ∧ (mi = 0 ∨ mi = 1) ∧ (k = 0 → mi = 0) ∧ v = (if mi = 0 then nv d k else - nv d k)
theorem ad_loop {R : Type} {Q : R → Prop} {kk : Int32 → (Nat → Int32) → Option R} {k l m : Nat} {da db x : Nat → Int32} (hk : k ≤ m) (hl : l ≤ m) (hm : m ≤ 159) (ha : dg da k) (hb : dg db l) (hC : ∀ (c : Int32) (w : Nat → Int32), (c.toInt = 0 ∨ c.toInt = 1) → dg w m → nv w m + c.toInt * 65536 ^ m = nv da k + nv db l → ok (kk c w) Q) :
    ok (lo3 (fun k_72 (v6_12 : Int32) (v5_13 : Int32) (w_14 : Nat → Int32) => ck_if (nI m ≤ v6_12) (kk v5_13 w_14) (ck_jn (fun (s0_16 : Int32) => ck_jn (fun (s0_17 : Int32) => ck_nm (v5_13 + (s0_16 + s0_17)) <| fun x_18 => ck_in v6_12 160 <| ck_nm (x_18 / 65536) <| fun x_20 => ck_nm (v6_12 + 1) <| fun x_21 => k_72 x_21 x_20 (upd w_14 v6_12.toNatClampNeg (x_18 - x_18 / 65536 * 65536))) <| fun k_121 => ck_if (nI l ≤ v6_12) (k_121 0) (ck_in v6_12 160 <| k_121 (db v6_12.toNatClampNeg))) <| fun k_101 => ck_if (nI k ≤ v6_12) (k_101 0) (ck_in v6_12 160 <| k_101 (da v6_12.toNatClampNeg)))) ck_F 0 0 x) Q := by
  refine lo3_F (fun v c w => ∃ i, i ≤ m ∧ v = nI i ∧ (c.toInt = 0 ∨ c.toInt = 1) ∧ dg w i ∧ nv w i + c.toInt * 65536 ^ i = nv (zx da k) i + nv (zx db l) i) (fun v _ _ => m - v.toNatClampNeg) ?_ ⟨0, Nat.zero_le m, nI_0.symm, Or.inl rfl, fun j hj => absurd hj (by omega), by simp [nv]⟩ (by omega)
  rintro kr v c w ⟨i, hi, rfl, hc, hw, he⟩ ih
  refine ok_if (fun q => ?_) (fun q => ?_)
  · have e : i = m := by
      have := (nI_leI (by omega) (by omega)).mp q
      omega
    subst e
    refine hC c w hc hw ?_
    rw [he, zx_nv hk, zx_nv hl]
  · have hlt : i < m := by
      rcases Nat.lt_or_ge i m with h | h
      · exact h
      · exact absurd ((nI_leI (by omega) (by omega)).mpr h) q
    refine ok_jn (fun kk1 => ok (kk1 (zx da k i)) Q) ?_ ?_
    · refine ok_jn (fun kk2 => ok (kk2 (zx db l i)) Q) ?_ ?_
      · obtain ⟨a0, a1⟩ := zx_dg ha i
        obtain ⟨b0, b1⟩ := zx_dg hb i
        refine ok_nm (fun y hy => ?_)
        have hs : y.toInt = c.toInt + ((zx da k i).toInt + (zx db l i).toInt) := by
          have h1 := i_add (a := zx da k i) (b := zx db l i) (by omega) (by omega)
          rw [hy, i_add (by rw [h1]; omega) (by rw [h1]; omega), h1]
        obtain ⟨d1, d2⟩ := i_dm (a := y) (by omega)
        refine ok_in (vp_in_nI (by omega) (by decide)) ?_
        refine ok_nm (fun c' hc' => ok_nm (fun v' hv' => ?_))
        subst hc'; subst hv'
        rw [nI_1, nI_clamp (by omega)]
        refine ih _ _ _ ⟨i + 1, hlt, rfl, by rw [d1]; omega, dg_upd hw (by rw [d2]; omega) (by rw [d2]; omega), ?_⟩ (by rw [nI_clamp (by omega), nI_clamp (by omega)]; omega)
        rw [nv_upd, d1, d2, Int.pow_succ]
        simp only [nv]
        have h5 : y.toInt = y.toInt % 65536 + 65536 * (y.toInt / 65536) := by omega
        generalize y.toInt % 65536 = z at *
        generalize y.toInt / 65536 = t at *
        generalize (65536 : Int) ^ i = p at *
        grind
      · intro kk2 h
        refine ok_if (fun q2 => ?_) (fun q2 => ?_)
        · have h1 := (nI_leI (by omega) (by omega)).mp q2
          have e : zx db l i = 0 := if_neg (by omega)
          rw [e] at h; exact h
        · have h1 : i < l := by
            rcases Nat.lt_or_ge i l with h | h
            · exact h
            · exact absurd ((nI_leI (by omega) (by omega)).mpr h) q2
          refine ok_in (vp_in_nI (by omega) (by decide)) ?_
          have e : zx db l i = db i := if_pos h1
          rw [nI_clamp (by omega), ← e]; exact h
    · intro kk1 h
      refine ok_if (fun q2 => ?_) (fun q2 => ?_)
      · have h1 := (nI_leI (by omega) (by omega)).mp q2
        have e : zx da k i = 0 := if_neg (by omega)
        rw [e] at h; exact h
      · have h1 : i < k := by
          rcases Nat.lt_or_ge i k with h | h
          · exact h
          · exact absurd ((nI_leI (by omega) (by omega)).mpr h) q2
        refine ok_in (vp_in_nI (by omega) (by decide)) ?_
        have e : zx da k i = da i := if_pos h1
        rw [nI_clamp (by omega), ← e]; exact h
theorem su_loop {R : Type} {Q : R → Prop} {kk : (Nat → Int32) → Option R} {k l : Nat} {da db x : Nat → Int32} (hl : l ≤ k) (hm : k ≤ 159) (ha : dg da k) (hb : dg db l) (hC : ∀ (c : Int) (w : Nat → Int32), (c = 0 ∨ c = 1) → dg w k → nv w k - c * 65536 ^ k = nv da k - nv db l → ok (kk w) Q) :
    ok (lo3 (fun k_236 (v8_16 : Int32) (v7_17 : Int32) (w_18 : Nat → Int32) => ck_if (nI k ≤ v8_16) (kk w_18) (ck_in v8_16 160 <| ck_jn (fun (s0_21 : Int32) => ck_nm (((da v8_16.toNatClampNeg) - s0_21) - v7_17) <| fun x_22 => ck_jn (fun (s0_23 : Int32) => ck_in v8_16 160 <| ck_nm (v8_16 + 1) <| fun x_25 => k_236 x_25 s0_23 (upd w_18 v8_16.toNatClampNeg (x_22 + (65536 * s0_23)))) <| fun k_292 => ck_if (0 ≤ x_22) (k_292 0) (k_292 1)) <| fun k_276 => ck_if (nI l ≤ v8_16) (k_276 0) (ck_in v8_16 160 <| k_276 (db v8_16.toNatClampNeg)))) ck_F 0 0 x) Q := by
  refine lo3_F (fun v c w => ∃ i, i ≤ k ∧ v = nI i ∧ (c.toInt = 0 ∨ c.toInt = 1) ∧ dg w i ∧ nv w i - c.toInt * 65536 ^ i = nv da i - nv (zx db l) i) (fun v _ _ => k - v.toNatClampNeg) ?_ ⟨0, Nat.zero_le k, nI_0.symm, Or.inl rfl, fun j hj => absurd hj (by omega), by simp [nv]⟩ (by omega)
  rintro kr v c w ⟨i, hi, rfl, hc, hw, he⟩ ih
  refine ok_if (fun q => ?_) (fun q => ?_)
  · have e : i = k := by
      have := (nI_leI (by omega) (by omega)).mp q
      omega
    subst e
    refine hC c.toInt w hc hw ?_
    rw [he, zx_nv hl]
  · have hlt : i < k := by
      rcases Nat.lt_or_ge i k with h | h
      · exact h
      · exact absurd ((nI_leI (by omega) (by omega)).mpr h) q
    refine ok_in (vp_in_nI (by omega) (by decide)) ?_
    refine ok_jn (fun kk1 => ok (kk1 (zx db l i)) Q) ?_ ?_
    · obtain ⟨a0, a1⟩ := ha i hlt
      obtain ⟨b0, b1⟩ := zx_dg hb i
      refine ok_nm (fun y hy => ?_)
      rw [nI_clamp (by omega)] at hy
      have hs : y.toInt = (da i).toInt - (zx db l i).toInt - c.toInt := by
        have h1 := i_sub (a := da i) (b := zx db l i) (by omega) (by omega)
        rw [hy, i_sub (by rw [h1]; omega) (by rw [h1]; omega), h1]
      refine ok_jn (fun kk2 => ∀ c' : Int32, (c'.toInt = 0 ∨ c'.toInt = 1) → 0 ≤ y.toInt + 65536 * c'.toInt → y.toInt + 65536 * c'.toInt < 65536 → ok (kk2 c') Q) ?_ ?_
      · intro c' hc' h0 h1
        refine ok_in (vp_in_nI (by omega) (by decide)) ?_
        refine ok_nm (fun v' hv' => ?_)
        subst hv'
        rw [nI_1, nI_clamp (by omega)]
        have e0 : (65536 : Int32).toInt = 65536 := rfl
        have e1 : (65536 * c').toInt = 65536 * c'.toInt := by rw [i_mul (by rw [e0]; omega) (by rw [e0]; omega), e0]
        have e2 : (y + 65536 * c').toInt = y.toInt + 65536 * c'.toInt := by rw [i_add (by rw [e1]; omega) (by rw [e1]; omega), e1]
        refine ih _ _ _ ⟨i + 1, hlt, rfl, hc', dg_upd hw (by rw [e2]; omega) (by rw [e2]; omega), ?_⟩ (by rw [nI_clamp (by omega), nI_clamp (by omega)]; omega)
        rw [nv_upd, e2, Int.pow_succ, hs]
        simp only [nv]
        generalize (65536 : Int) ^ i = p at *
        grind
      · intro kk2 h
        refine ok_if (fun q2 => ?_) (fun q2 => ?_)
        · have h1 : 0 ≤ y.toInt := i_le.mp q2
          exact h 0 (Or.inl rfl) (by simpa using h1) (by simp; omega)
        · have h1 : ¬ 0 ≤ y.toInt := fun h => q2 (i_le.mpr h)
          have e : (1 : Int32).toInt = 1 := rfl
          exact h 1 (Or.inr rfl) (by rw [e]; omega) (by rw [e]; omega)
    · intro kk1 h
      refine ok_if (fun q2 => ?_) (fun q2 => ?_)
      · have h1 := (nI_leI (by omega) (by omega)).mp q2
        have e : zx db l i = 0 := if_neg (by omega)
        rw [e] at h; exact h
      · have h1 : i < l := by
          rcases Nat.lt_or_ge i l with h | h
          · exact h
          · exact absurd ((nI_leI (by omega) (by omega)).mpr h) q2
        refine ok_in (vp_in_nI (by omega) (by decide)) ?_
        have e : zx db l i = db i := if_pos h1
        rw [nI_clamp (by omega), ← e]; exact h
