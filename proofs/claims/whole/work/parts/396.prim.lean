/-! prime fields -/
def PR : List Nat := [2, 3, 5, 7, 11, 13, 17, 19, 23, 29, 31, 37, 41, 43, 47, 53, 59, 61, 67, 71, 73, 79, 83, 89, 97, 101, 103, 107, 109, 113, 127, 131, 137, 139, 149, 151, 157, 163, 167, 173, 179, 181, 191, 193, 197, 199, 211, 223, 227, 229, 233, 239, 241, 251]
theorem pr_inv0 : PR.all (fun p => (List.range p).all (fun v => v == 0 || (v ^ (p - 2) % p) * v % p == 1)) = true := by decide +kernel
theorem pr_le : ∀ p ∈ PR, 2 ≤ p ∧ p ≤ 251 := by decide
theorem pr_inv {p v : Nat} (hp : p ∈ PR) (hv : 0 < v) (hvp : v < p) : (v ^ (p - 2) % p) * v % p = 1 := by
  have h1 := List.all_eq_true.mp (List.all_eq_true.mp pr_inv0 p hp) v (List.mem_range.mpr hvp)
  simp only [Bool.or_eq_true, beq_iff_eq] at h1
  omega
theorem inv_ok {p v : Nat} (hp : p ∈ PR) (hv : 0 < v) (hvp : v < p) : ok (f_R_inverse (nI p) (nI v)) (fun r => ∃ x, r = nI x ∧ 0 < x ∧ x < p ∧ x * v % p = 1) := by
  obtain ⟨p0, p1⟩ := pr_le p hp
  have h1 := pr_inv hp hv hvp
  generalize hx0 : v ^ (p - 2) % p = x0 at h1
  have hx1 : x0 < p := by rw [← hx0]; exact Nat.mod_lt _ (by omega)
  have hx2 : 0 < x0 := by
    rcases Nat.eq_zero_or_pos x0 with q | q
    · rw [q, Nat.zero_mul, Nat.zero_mod] at h1; omega
    · exact q
  unfold f_R_inverse
  refine lo1_F (fun w => ∃ t, w = nI t ∧ 1 ≤ t ∧ t ≤ x0) (fun w => x0 - w.toNatClampNeg) ?_ ⟨1, rfl, by omega, by omega⟩ (by omega)
  rintro kr w ⟨t, rfl, t1, t2⟩ ih
  have hb : t * v < 2 ^ 31 := by
    have : t * v ≤ 251 * 251 := Nat.mul_le_mul (by omega) (by omega)
    omega
  have e1 : nI t * nI v - nI t * nI v / nI p * nI p = nI (t * v % p) := by rw [pk_mul, pk_rem hb (by omega) (by omega)]
  refine ok_nz (fun e => by have := (nI_eq0 (by omega)).mp e; omega) ?_
  refine ok_if (fun q => ?_) (fun q => ?_)
  · rw [e1, show (1 : Int32) = nI 1 from rfl] at q
    have hm : t * v % p < p := Nat.mod_lt _ (by omega)
    exact ok_some ⟨t, rfl, by omega, by omega, (nI_eq (by omega) (by omega)).mp q⟩
  · refine ok_nm (fun y hy => ?_)
    rw [nI_1] at hy
    subst hy
    have hne : t ≠ x0 := by
      intro e
      apply q
      rw [e1, e, h1]; rfl
    exact ih _ ⟨t + 1, rfl, by omega, by omega⟩ (by rw [nI_clamp (by omega), nI_clamp (by omega)]; omega)
/-- take, in a prime field -/
theorem tkp_ok {pn pm sm : Nat → Int32} {pd : Nat → Nat → Int32} {e : Nat → Nat} {p i k col n : Nat} (hp : p ∈ PR) (hi : i ≤ 12) (hk : k ≤ 12) (hik : i ≠ k) (hn : n ≤ 12) (hc : col < n) (hsi : ∀ j, j < n → sm (12 * i + j) = nI (e (12 * i + j)) ∧ e (12 * i + j) < p) (hsk : ∀ j, j < n → sm (12 * k + j) = nI (e (12 * k + j)) ∧ e (12 * k + j) < p) (hpv : e (12 * k + col) ≠ 0) : ok (f_R_take (nI n) (nI p) sm pn pm pd (nI i) (nI k) (nI col)) (fun r => r.2.1 = pn ∧ r.2.2.1 = pm ∧ r.2.2.2 = pd ∧ (∃ u : Nat, (p : Int) ∣ (u : Int) * e (12 * k + col) - e (12 * i + col) ∧ ∀ j, j < n → ∃ z : Nat, z < p ∧ r.1 (12 * i + j) = nI z ∧ (p : Int) ∣ (z : Int) - ((e (12 * i + j) : Int) - u * e (12 * k + j))) ∧ ∀ q, (∀ j, j < n → q ≠ 12 * i + j) → r.1 q = sm q) := by
  obtain ⟨p0, p1⟩ := pr_le p hp
  unfold f_R_take
  refine ok_if (fun q => absurd ((nI_le0 (by omega)).mp q) (by omega)) (fun _ => ?_)
  rw [ix12, ix12]
  refine ok_in (vp_in_nI (by omega) (by decide)) (ok_in (vp_in_nI (by omega) (by decide)) ?_)
  rw [nI_clamp (by omega), nI_clamp (by omega)]
  obtain ⟨a1, a2⟩ := hsi col hc
  obtain ⟨b1, b2⟩ := hsk col hc
  rw [a1, b1]
  refine ok_b1 (inv_ok hp (by omega) b2) ?_
  rintro r1 ⟨x, rfl, x1, x2, x3⟩
  refine ok_nz (fun q => by have := (nI_eq0 (by omega)).mp q; omega) ?_
  refine ok_nm (fun y hy => ?_)
  have hb : e (12 * i + col) * x < 2 ^ 31 := by
    have : e (12 * i + col) * x ≤ 251 * 251 := Nat.mul_le_mul (by omega) (by omega)
    omega
  rw [pk_mul, pk_rem hb (by omega) (by omega)] at hy
  generalize hu : e (12 * i + col) * x % p = u at hy
  have hup : u < p := by rw [← hu]; exact Nat.mod_lt _ (by omega)
  subst hy
  have hud : (p : Int) ∣ (u : Int) * e (12 * k + col) - e (12 * i + col) := by
    have q1 : (u : Int) = ((e (12 * i + col) * x : Nat) : Int) - p * ((e (12 * i + col) * x / p : Nat) : Int) := by
      have := Nat.div_add_mod (e (12 * i + col) * x) p
      rw [hu] at this
      have q9 : ((p * (e (12 * i + col) * x / p) + u : Nat) : Int) = ((e (12 * i + col) * x : Nat) : Int) := by rw [this]
      push_cast at q9 ⊢
      omega
    have q2 : ((x * e (12 * k + col) : Nat) : Int) = 1 + p * ((x * e (12 * k + col) / p : Nat) : Int) := by
      have := Nat.div_add_mod (x * e (12 * k + col)) p
      rw [x3] at this
      have q9 : ((p * (x * e (12 * k + col) / p) + 1 : Nat) : Int) = ((x * e (12 * k + col) : Nat) : Int) := by rw [this]
      push_cast at q9 ⊢
      omega
    push_cast at q1 q2
    refine ⟨(e (12 * i + col) : Int) * ((x * e (12 * k + col) / p : Nat) : Int) - ((e (12 * i + col) * x / p : Nat) : Int) * e (12 * k + col), ?_⟩
    push_cast
    rw [q1]
    generalize (e (12 * i + col) : Int) * x / p = A at *
    generalize (x : Int) * e (12 * k + col) / p = B at *
    grind
  refine lo2_F (fun v w => ∃ j, j ≤ n ∧ v = nI j ∧ (∀ t, t < j → ∃ z : Nat, z < p ∧ w (12 * i + t) = nI z ∧ (p : Int) ∣ (z : Int) - ((e (12 * i + t) : Int) - u * e (12 * k + t))) ∧ (∀ t, j ≤ t → t < n → w (12 * i + t) = sm (12 * i + t)) ∧ ∀ q, (∀ j, j < n → q ≠ 12 * i + j) → w q = sm q) (fun v _ => n - v.toNatClampNeg) ?_ ⟨0, Nat.zero_le n, nI_0.symm, fun t ht => absurd ht (by omega), fun _ _ _ => rfl, fun _ _ => rfl⟩ (by omega)
  rintro kr v w ⟨j, hj, rfl, hd, hr, ho⟩ ih
  refine ok_if (fun q => ?_) (fun q => ?_)
  · have ee : j = n := by
      have := (nI_leI (by omega) (by omega)).mp q
      omega
    subst ee
    exact ok_some ⟨rfl, rfl, rfl, ⟨u, hud, hd⟩, ho⟩
  · have hlt : j < n := by
      rcases Nat.lt_or_ge j n with q1 | q1
      · exact q1
      · exact absurd ((nI_leI (by omega) (by omega)).mpr q1) q
    rw [ix12, ix12]
    refine ok_in (vp_in_nI (by omega) (by decide)) (ok_in (vp_in_nI (by omega) (by decide)) ?_)
    refine ok_nz (fun q => by have := (nI_eq0 (by omega)).mp q; omega) ?_
    rw [nI_clamp (by omega), nI_clamp (by omega)]
    obtain ⟨c1, c2⟩ := hsi j hlt
    obtain ⟨d1, d2⟩ := hsk j hlt
    rw [hr j (Nat.le_refl j) hlt, ho (12 * k + j) (fun t ht => by omega), c1, d1]
    have hb2 : u * e (12 * k + j) < 2 ^ 31 := by
      have : u * e (12 * k + j) ≤ 251 * 251 := Nat.mul_le_mul (by omega) (by omega)
      omega
    refine ok_nm (fun y hy => ?_)
    rw [pk_mul, pk_rem hb2 (by omega) (by omega)] at hy
    generalize hm : u * e (12 * k + j) % p = m at hy
    have hmp : m < p := by rw [← hm]; exact Nat.mod_lt _ (by omega)
    have hyi : y.toInt = (e (12 * i + j) : Int) - m := by
      rw [hy, i_sub (by rw [nI_toInt (by omega), nI_toInt (by omega)]; omega) (by rw [nI_toInt (by omega), nI_toInt (by omega)]; omega), nI_toInt (by omega), nI_toInt (by omega)]
    have hmd : (m : Int) = (u : Int) * e (12 * k + j) - p * ((u * e (12 * k + j) / p : Nat) : Int) := by
      have := Nat.div_add_mod (u * e (12 * k + j)) p
      rw [hm] at this
      have q9 : ((p * (u * e (12 * k + j) / p) + m : Nat) : Int) = ((u * e (12 * k + j) : Nat) : Int) := by rw [this]
      push_cast at q9 ⊢
      omega
    refine ok_jn (fun k116 => ∀ z : Nat, z < p → ((z : Int) = y.toInt ∨ (z : Int) = y.toInt + p) → ok (k116 (nI z)) (fun r => r.2.1 = pn ∧ r.2.2.1 = pm ∧ r.2.2.2 = pd ∧ (∃ u : Nat, (p : Int) ∣ (u : Int) * e (12 * k + col) - e (12 * i + col) ∧ ∀ j, j < n → ∃ z : Nat, z < p ∧ r.1 (12 * i + j) = nI z ∧ (p : Int) ∣ (z : Int) - ((e (12 * i + j) : Int) - u * e (12 * k + j))) ∧ ∀ q, (∀ j, j < n → q ≠ 12 * i + j) → r.1 q = sm q)) ?_ ?_
    · intro z hz hzy
      refine ok_in (vp_in_nI (by omega) (by decide)) ?_
      refine ok_nm (fun v' hv' => ?_)
      subst hv'
      rw [nI_1]
      refine ih _ _ ⟨j + 1, hlt, rfl, fun t ht => ?_, fun t ht1 ht2 => ?_, fun q hq => ?_⟩ (by rw [nI_clamp (by omega), nI_clamp (by omega)]; omega)
      · by_cases q3 : t = j
        · subst q3
          refine ⟨z, hz, pk_us, ?_⟩
          rcases hzy with q4 | q4
          · exact ⟨((u * e (12 * k + t) / p : Nat) : Int), by rw [q4, hyi, hmd]; omega⟩
          · refine ⟨((u * e (12 * k + t) / p : Nat) : Int) + 1, ?_⟩
            rw [q4, hyi, hmd, Int.mul_add]; omega
        · obtain ⟨z', g1, g2, g3⟩ := hd t (by omega)
          exact ⟨z', g1, by rw [pk_un (by omega)]; exact g2, g3⟩
      · rw [pk_un (by omega)]; exact hr t (by omega) ht2
      · rw [pk_un (hq j hlt)]; exact ho q hq
    · intro k116 hk2
      refine ok_if (fun q2 => ?_) (fun q2 => ?_)
      · have y0 : 0 ≤ y.toInt := i_le.mp q2
        have e9 : y = nI y.toInt.toNat := Int32.toInt_inj.mp (by rw [nI_toInt (by omega)]; omega)
        rw [e9]
        exact hk2 y.toInt.toNat (by omega) (Or.inl (by omega))
      · have y0 : ¬ 0 ≤ y.toInt := fun h => q2 (i_le.mpr h)
        have e8 : (y + nI p).toInt = y.toInt + p := by rw [i_add (by rw [nI_toInt (by omega)]; omega) (by rw [nI_toInt (by omega)]; omega), nI_toInt (by omega)]
        have e9 : y + nI p = nI (y.toInt + p).toNat := Int32.toInt_inj.mp (by rw [nI_toInt (by omega), e8]; omega)
        rw [e9]
        exact hk2 (y.toInt + p).toNat (by omega) (Or.inr (by omega))
