/-! the product of two numbers -/
theorem dg_set {w : Nat → Int32} {n i : Nat} {z : Int32} (hw : dg w n) (h0 : 0 ≤ z.toInt) (h1 : z.toInt < 65536) : dg (upd w i z) n := by
  intro j hj
  by_cases q : j = i
  · subst q; rw [pk_us]; exact ⟨h0, h1⟩
  · rw [pk_un q]; exact hw j hj
theorem pd_in {R : Type} {Q : R → Prop} {kk : Int64 → (Nat → Int32) → Option R} {i l k : Nat} {da db w : Nat → Int32} (hi : i < k) (hkl : k + l ≤ 159) (ha : dg da k) (hb : dg db l) (hw : dg w (i + l)) (hC : ∀ (c : Int64) (w' : Nat → Int32), 0 ≤ c.toInt → c.toInt < 65536 → dg w' (i + l) → nv w' (i + l) + c.toInt * 65536 ^ (i + l) = nv w (i + l) + (da i).toInt * 65536 ^ i * nv db l → ok (kk c w') Q) :
    ok (lo3 (fun k_52 (v6_16 : Int32) (v4_17 : Int64) (w_18 : Nat → Int32) => ck_if (nI l ≤ v6_16) (kk v4_17 w_18) (ck_in (nI i) 160 <| ck_in v6_16 160 <| ck_in (nI i + v6_16) 160 <| ck_nm (v4_17 + ((((da (nI i).toNatClampNeg).toInt64) * ((db v6_16.toNatClampNeg).toInt64)) + ((w_18 (nI i + v6_16).toNatClampNeg).toInt64))) <| fun x_23 => ck_in (nI i + v6_16) 160 <| ck_nm (x_23 / 65536) <| fun x_25 => ck_nm (v6_16 + 1) <| fun x_26 => k_52 x_26 x_25 (upd w_18 (nI i + v6_16).toNatClampNeg ((x_23 - x_23 / 65536 * 65536).toInt32)))) ck_F 0 0 w) Q := by
  refine lo3_F (fun v c w' => ∃ j, j ≤ l ∧ v = nI j ∧ 0 ≤ c.toInt ∧ c.toInt < 65536 ∧ dg w' (i + l) ∧ (∀ p, i + j ≤ p → w' p = w p) ∧ nv w' (i + j) + c.toInt * 65536 ^ (i + j) = nv w (i + j) + (da i).toInt * 65536 ^ i * nv db j) (fun v _ _ => l - v.toNatClampNeg) ?_ ⟨0, Nat.zero_le l, nI_0.symm, by decide, by decide, hw, fun _ _ => rfl, by simp [nv]⟩ (by omega)
  rintro kr v c w' ⟨j, hj, rfl, hc0, hc1, hw', hsame, he⟩ ih
  refine ok_if (fun q => ?_) (fun q => ?_)
  · have e : j = l := by
      have := (nI_leI (by omega) (by omega)).mp q
      omega
    subst e
    exact hC c w' hc0 hc1 hw' he
  · have hlt : j < l := by
      rcases Nat.lt_or_ge j l with h | h
      · exact h
      · exact absurd ((nI_leI (by omega) (by omega)).mpr h) q
    rw [nI_add]
    refine ok_in (vp_in_nI (by omega) (by decide)) (ok_in (vp_in_nI (by omega) (by decide)) (ok_in (vp_in_nI (by omega) (by decide)) ?_))
    rw [nI_clamp (by omega), nI_clamp (by omega), nI_clamp (by omega)]
    obtain ⟨a0, a1⟩ := ha i hi
    obtain ⟨b0, b1⟩ := hb j hlt
    obtain ⟨d0, d1⟩ := hw' (i + j) (by omega)
    refine ok_nm (fun y hy => ?_)
    have p0 : 0 ≤ (da i).toInt * (db j).toInt := Int.mul_nonneg a0 b0
    have p1 : (da i).toInt * (db j).toInt ≤ 65535 * 65535 := Int.mul_le_mul (by omega) (by omega) b0 (by decide)
    have hs : y.toInt = c.toInt + ((da i).toInt * (db j).toInt + (w' (i + j)).toInt) := by
      have h1 : ((da i).toInt64 * (db j).toInt64).toInt = (da i).toInt * (db j).toInt := by
        rw [l_mul (by rw [Int32.toInt_toInt64, Int32.toInt_toInt64]; omega) (by rw [Int32.toInt_toInt64, Int32.toInt_toInt64]; omega), Int32.toInt_toInt64, Int32.toInt_toInt64]
      have h2 : ((da i).toInt64 * (db j).toInt64 + (w' (i + j)).toInt64).toInt = (da i).toInt * (db j).toInt + (w' (i + j)).toInt := by
        rw [l_add (by rw [h1, Int32.toInt_toInt64]; omega) (by rw [h1, Int32.toInt_toInt64]; omega), h1, Int32.toInt_toInt64]
      rw [hy, l_add (by rw [h2]; omega) (by rw [h2]; omega), h2]
    obtain ⟨q1, q2⟩ := l_dm (a := y) (by omega)
    have q3 : ((y - y / 65536 * 65536).toInt32).toInt = y.toInt % 65536 := by rw [l_i (by rw [q2]; omega) (by rw [q2]; omega), q2]
    refine ok_in (vp_in_nI (by omega) (by decide)) ?_
    refine ok_nm (fun c' hc' => ok_nm (fun v' hv' => ?_))
    subst hc'; subst hv'
    rw [nI_1]
    refine ih _ _ _ ⟨j + 1, hlt, rfl, by rw [q1]; omega, by rw [q1]; omega, dg_set hw' (by rw [q3]; omega) (by rw [q3]; omega), fun p hp => by rw [pk_un (by omega)]; exact hsame p (by omega), ?_⟩ (by rw [nI_clamp (by omega), nI_clamp (by omega)]; omega)
    rw [show i + (j + 1) = (i + j) + 1 from rfl, nv_upd, q3, q1, Int.pow_succ]
    simp only [nv]
    rw [← hsame (i + j) (Nat.le_refl _)]
    have h5 : y.toInt = y.toInt % 65536 + 65536 * (y.toInt / 65536) := by omega
    have h6 : (65536 : Int) ^ (i + j) = 65536 ^ i * 65536 ^ j := Int.pow_add _ _ _
    rw [h6] at he ⊢
    generalize y.toInt % 65536 = z at *
    generalize y.toInt / 65536 = t at *
    generalize (65536 : Int) ^ i = p at *
    generalize (65536 : Int) ^ j = p2 at *
    grind
theorem pr_ok {k l : Nat} {na nb ma mb : Int32} {da db x : Nat → Int32} {va vb : Int} (ha : Nu na ma da k va) (hb : Nu nb mb db l vb) (hkl : k + l ≤ 159) : ok (f_N_product 160 x na ma 160 da nb mb 160 db) (fun r => ∃ k', k' ≤ k + l ∧ Nu r.1 r.2.1 r.2.2 k' (va * vb)) := by
  obtain ⟨rfl, hda, hta, hma, hka, hva⟩ := ha
  obtain ⟨rfl, hdb, htb, hmb, hlb, hvb⟩ := hb
  unfold f_N_product
  rw [nI_add]
  refine ok_jn (fun k36 => ∀ w : Nat → Int32, (∀ j, j < k + l → w j = 0) → ok (k36 w) (fun r => ∃ k', k' ≤ k + l ∧ Nu r.1 r.2.1 r.2.2 k' (va * vb))) ?_ ?_
  · intro w hw0
    refine ok_jn (fun k143 => ∀ w : Nat → Int32, dg w (k + l) → nv w (k + l) = nv da k * nv db l → ok (k143 w) (fun r => ∃ k', k' ≤ k + l ∧ Nu r.1 r.2.1 r.2.2 k' (va * vb))) ?_ ?_
    · intro w hw he
      refine ok_jn (fun k160 => ok (k160 (if ma = mb then 0 else 1)) (fun r => ∃ k', k' ≤ k + l ∧ Nu r.1 r.2.1 r.2.2 k' (va * vb))) ?_ ?_
      · have hs : (if ma = mb then (0 : Int32) else 1) = 0 ∨ (if ma = mb then (0 : Int32) else 1) = 1 := by
          split
          · exact Or.inl rfl
          · exact Or.inr rfl
        refine ok_z hs ?_
        refine tr_fin (by omega) hw hs ?_
        rw [he, hva, hvb]
        rcases hma with q | q <;> rcases hmb with q2 | q2 <;> simp [q, q2] <;> grind
      · intro k160 h
        refine ok_if (fun q => ?_) (fun q => ?_)
        · rw [if_pos q] at h; exact h
        · rw [if_neg q] at h; exact h
    · intro k143 hC
      refine lo2_F (fun v w => ∃ i, i ≤ k ∧ v = nI i ∧ dg w (i + l) ∧ nv w (i + l) = nv da i * nv db l) (fun v _ => k - v.toNatClampNeg) ?_ ⟨0, Nat.zero_le k, nI_0.symm, ?_, ?_⟩ (by omega)
      · rintro kr v w ⟨i, hi, rfl, hw, he⟩ ih
        refine ok_if (fun q => ?_) (fun q => ?_)
        · have e : i = k := by
            have := (nI_leI (by omega) (by omega)).mp q
            omega
          subst e
          exact hC w hw he
        · have hlt : i < k := by
            rcases Nat.lt_or_ge i k with h | h
            · exact h
            · exact absurd ((nI_leI (by omega) (by omega)).mpr h) q
          refine ok_jn (fun k123 => ∀ (c : Int64) (w' : Nat → Int32), 0 ≤ c.toInt → c.toInt < 65536 → dg w' (i + l) → nv w' (i + l) + c.toInt * 65536 ^ (i + l) = nv w (i + l) + (da i).toInt * 65536 ^ i * nv db l → ok (k123 c w') (fun r => ∃ k', k' ≤ k + l ∧ Nu r.1 r.2.1 r.2.2 k' (va * vb))) ?_ ?_
          · intro c w' hc0 hc1 hw' he'
            rw [nI_add]
            refine ok_in (vp_in_nI (by omega) (by decide)) ?_
            refine ok_nm (fun v' hv' => ?_)
            subst hv'
            rw [nI_1, nI_clamp (by omega)]
            have hci : c.toInt32.toInt = c.toInt := l_i (by omega) (by omega)
            refine ih _ _ ⟨i + 1, hlt, rfl, ?_, ?_⟩ (by rw [nI_clamp (by omega), nI_clamp (by omega)]; omega)
            · rw [show i + 1 + l = (i + l) + 1 by omega]
              exact dg_upd hw' (by rw [hci]; exact hc0) (by rw [hci]; exact hc1)
            · rw [show i + 1 + l = (i + l) + 1 by omega, nv_upd, hci, he', he]
              simp only [nv]
              grind
          · intro k123 h
            exact pd_in hlt hkl hda hdb hw h
      · rw [Nat.zero_add]
        intro j hj
        rw [hw0 j (by omega)]
        exact ⟨by decide, by decide⟩
      · rw [Nat.zero_add, nv_congr (e := zx w 0) (fun j hj => by rw [hw0 j (by omega)]; rfl), zx_nv (Nat.zero_le l)]
        simp [nv]
  · intro k36 hC
    refine lo2_F (fun v w => ∃ i, i ≤ k + l ∧ v = nI i ∧ ∀ j, j < i → w j = 0) (fun v _ => k + l - v.toNatClampNeg) ?_ ⟨0, Nat.zero_le _, nI_0.symm, fun j hj => absurd hj (by omega)⟩ (by omega)
    rintro kr v w ⟨i, hi, rfl, hw⟩ ih
    refine ok_if (fun q => ?_) (fun q => ?_)
    · have e : i = k + l := by
        have := (nI_leI (by omega) (by omega)).mp q
        omega
      subst e
      exact hC w hw
    · have hlt : i < k + l := by
        rcases Nat.lt_or_ge i (k + l) with h | h
        · exact h
        · exact absurd ((nI_leI (by omega) (by omega)).mpr h) q
      refine ok_in (vp_in_nI (by omega) (by decide)) ?_
      refine ok_nm (fun v' hv' => ?_)
      subst hv'
      rw [nI_1, nI_clamp (by omega)]
      refine ih _ _ ⟨i + 1, hlt, rfl, fun j hj => ?_⟩ (by rw [nI_clamp (by omega), nI_clamp (by omega)]; omega)
      by_cases q2 : j = i
      · subst q2; exact pk_us
      · rw [pk_un q2]; exact hw j (by omega)
