theorem Nu_sgn {n mi : Int32} {d : Nat → Int32} {c : Nat} {v : Int} (h : Nu n mi d c v) : (mi = 0 → 0 ≤ v) ∧ (mi ≠ 0 → v < 0) := by
  obtain ⟨h0, h1, h2, h3, h4, h5⟩ := id h
  have hn := nv_nn h1
  refine ⟨fun e => by rw [h5, if_pos e]; exact hn, fun e => ?_⟩
  rw [h5, if_neg e]
  have c0 : c ≠ 0 := fun q => e (h4 q)
  have hv : v ≠ 0 := fun q => c0 ((Nu_zero h).mpr q)
  rw [h5, if_neg e] at hv
  omega
/-- settle, over the rationals: the row is made short and its pivot positive -/
theorem se_ok {pn pm sm pv : Nat → Int32} {pd : Nat → Nat → Int32} {V : Nat → Int} {i c n : Nat} (h : PO pn pm pd V) (hi : i ≤ 12) (hn : n ≤ 12) (hc : c < n) (hpv : pv i = nI c) (hs : ∀ j, j < n → sz (V (12 * i + j)) 150) : ok (f_R_settle (nI n) 0 sm pv pn pm pd (nI i)) (fun r => r.1 = sm ∧ ∃ V', PO r.2.1 r.2.2.1 r.2.2.2 V' ∧ 0 ≤ V' (12 * i + c) ∧ (∃ s : Int, (s = 1 ∨ s = -1) ∧ ∀ j, j < n → V' (12 * i + j) = s * (V (12 * i + j)).tdiv (rg V (12 * i) n)) ∧ ∀ q, q < 192 → (∀ j, j < n → q ≠ 12 * i + j) → V' q = V q) := by
  unfold f_R_settle
  refine ok_if (fun _ => ?_) (fun q => absurd (by decide) q)
  refine ok_b3 (sh_ok h hi hn hs) ?_
  rintro u2 u3 u4 ⟨V1, g1, g2, g3⟩
  dsimp only at g1
  refine ok_in (vp_in_nI (by omega) (by decide)) ?_
  rw [nI_clamp (by omega), hpv]
  refine ok_b1 (at_ok (by omega)) ?_
  rintro r7 rfl
  obtain ⟨d, hd, hN⟩ := Nx_len (b := 150) (g1 (12 * i + c) (by omega)) (by rw [g2 c hc]; exact tdiv_sz (hs c hc))
  have hsg := Nu_sgn hN
  refine ok_if (fun q => ?_) (fun q => ?_)
  · exact ok_some ⟨rfl, V1, g1, hsg.1 q, ⟨1, Or.inl rfl, fun j hj => by rw [g2 j hj]; omega⟩, fun k hk1 hk2 => g3 k (Or.inl hk1) hk2⟩
  · have hneg := hsg.2 q
    refine lo2_F (fun v qm => ∃ (j : Nat) (W : Nat → Int), j ≤ n ∧ v = nI j ∧ PO u2 qm u4 W ∧ (∀ p, p < j → W (12 * i + p) = - V1 (12 * i + p)) ∧ (∀ p, j ≤ p → p < n → W (12 * i + p) = V1 (12 * i + p)) ∧ ∀ k, k < 192 → (∀ j, j < n → k ≠ 12 * i + j) → W k = V1 k) (fun v _ => n - v.toNatClampNeg) ?_ ⟨0, V1, Nat.zero_le n, nI_0.symm, g1, fun p hp => absurd hp (by omega), fun _ _ _ => rfl, fun _ _ _ => rfl⟩ (by omega)
    rintro kr v qm ⟨j, W, hj, rfl, hP, hd1, hr, ho⟩ ih
    refine ok_if (fun q1 => ?_) (fun q1 => ?_)
    · have e : j = n := by
        have := (nI_leI (by omega) (by omega)).mp q1
        omega
      subst e
      refine ok_some ⟨rfl, W, hP, by rw [hd1 c hc]; omega, ⟨-1, Or.inr rfl, fun p hp => by rw [hd1 p hp, g2 p hp]; omega⟩, fun k hk1 hk2 => ?_⟩
      rw [ho k hk1 hk2]; exact g3 k (Or.inl hk1) hk2
    · have hlt : j < n := by
        rcases Nat.lt_or_ge j n with q2 | q2
        · exact q2
        · exact absurd ((nI_leI (by omega) (by omega)).mpr q2) q1
      refine ok_b1 (at_ok (by omega)) ?_
      rintro r13 rfl
      have wv : W (12 * i + j) = V1 (12 * i + j) := hr j (Nat.le_refl j) hlt
      refine ok_b1 (xtu (hP (12 * i + j) (by omega)) (by rw [wv, g2 j hlt]; exact sz_mono (tdiv_sz (hs j hlt)) (by decide))) ?_
      intro u15 hu
      refine ok_nm (fun qm2 e1 => ok_nm (fun v' hv' => ?_))
      have g4 : PO u2 qm2 u4 (vu W (12 * i + j) (- W (12 * i + j))) := by
        intro k hk
        by_cases q3 : k = 12 * i + j
        · subst q3; rw [e1, pk_us, vu_s]; exact hu
        · rw [e1, pk_un q3, vu_n q3]; exact hP k hk
      subst hv'
      rw [nI_1]
      refine ih _ _ ⟨j + 1, _, hlt, rfl, g4, fun p hp => ?_, fun p hp1 hp2 => ?_, fun k hk1 hk2 => ?_⟩ (by rw [nI_clamp (by omega), nI_clamp (by omega)]; omega)
      · by_cases q3 : p = j
        · subst q3; rw [vu_s, wv]
        · rw [vu_n (by omega)]; exact hd1 p (by omega)
      · rw [vu_n (by omega)]; exact hr p (by omega) hp2
      · rw [vu_n (hk2 j hlt)]; exact ho k hk1 hk2
/-- settle, in a prime field: the row times the inverse of its pivot -/
theorem sep_ok {pn pm sm pv : Nat → Int32} {pd : Nat → Nat → Int32} {e : Nat → Nat} {p i c n : Nat} (hp : p ∈ PR) (hi : i ≤ 12) (hn : n ≤ 12) (hc : c < n) (hpv : pv i = nI c) (hs : ∀ j, j < n → sm (12 * i + j) = nI (e j) ∧ e j < p) (h0 : e c ≠ 0) : ok (f_R_settle (nI n) (nI p) sm pv pn pm pd (nI i)) (fun r => r.2.1 = pn ∧ r.2.2.1 = pm ∧ r.2.2.2 = pd ∧ (∃ x : Nat, x * e c % p = 1 ∧ ∀ j, j < n → r.1 (12 * i + j) = nI (e j * x % p)) ∧ ∀ q, (∀ j, j < n → q ≠ 12 * i + j) → r.1 q = sm q) := by
  obtain ⟨p0, p1⟩ := pr_le p hp
  unfold f_R_settle
  refine ok_if (fun q => absurd ((nI_le0 (by omega)).mp q) (by omega)) (fun _ => ?_)
  refine ok_in (vp_in_nI (by omega) (by decide)) ?_
  rw [nI_clamp (by omega), hpv, ix12]
  refine ok_in (vp_in_nI (by omega) (by decide)) ?_
  rw [nI_clamp (by omega), (hs c hc).1]
  refine ok_b1 (inv_ok hp (by omega) (hs c hc).2) ?_
  rintro r1 ⟨x, rfl, x1, x2, x3⟩
  refine lo2_F (fun v w => ∃ j, j ≤ n ∧ v = nI j ∧ (∀ t, t < j → w (12 * i + t) = nI (e t * x % p)) ∧ (∀ t, j ≤ t → t < n → w (12 * i + t) = sm (12 * i + t)) ∧ ∀ q, (∀ j, j < n → q ≠ 12 * i + j) → w q = sm q) (fun v _ => n - v.toNatClampNeg) ?_ ⟨0, Nat.zero_le n, nI_0.symm, fun t ht => absurd ht (by omega), fun _ _ _ => rfl, fun _ _ => rfl⟩ (by omega)
  rintro kr v w ⟨j, hj, rfl, hd, hr, ho⟩ ih
  refine ok_if (fun q => ?_) (fun q => ?_)
  · have ee : j = n := by
      have := (nI_leI (by omega) (by omega)).mp q
      omega
    subst ee
    exact ok_some ⟨rfl, rfl, rfl, ⟨x, x3, hd⟩, ho⟩
  · have hlt : j < n := by
      rcases Nat.lt_or_ge j n with q1 | q1
      · exact q1
      · exact absurd ((nI_leI (by omega) (by omega)).mpr q1) q
    rw [ix12]
    refine ok_in (vp_in_nI (by omega) (by decide)) ?_
    refine ok_nz (fun q => by have := (nI_eq0 (by omega)).mp q; omega) ?_
    refine ok_in (vp_in_nI (by omega) (by decide)) ?_
    refine ok_nm (fun v' hv' => ?_)
    subst hv'
    obtain ⟨c1, c2⟩ := hs j hlt
    have hb : e j * x < 2 ^ 31 := by
      have : e j * x ≤ 251 * 251 := Nat.mul_le_mul (by omega) (by omega)
      omega
    rw [nI_1, nI_clamp (by omega), hr j (Nat.le_refl j) hlt, c1, pk_mul, pk_rem hb (by omega) (by omega)]
    refine ih _ _ ⟨j + 1, hlt, rfl, fun t ht => ?_, fun t ht1 ht2 => ?_, fun q hq => ?_⟩ (by rw [nI_clamp (by omega), nI_clamp (by omega)]; omega)
    · by_cases q3 : t = j
      · subst q3; exact pk_us
      · rw [pk_un (by omega)]; exact hd t (by omega)
    · rw [pk_un (by omega)]; exact hr t (by omega) ht2
    · rw [pk_un (hq j hlt)]; exact ho q hq
/-- lay, in a prime field -/
theorem lyp_ok {pn pm sm : Nat → Int32} {pd : Nat → Nat → Int32} {p i j : Nat} {v : Int64} (hp : p ∈ PR) (hij : 12 * i + j < 156) (h1 : -50000 ≤ v.toInt) (h2 : v.toInt ≤ 50000) : ok (f_R_lay (nI p) sm pn pm pd (nI i) (nI j) v) (fun r => r.2.1 = pn ∧ r.2.2.1 = pm ∧ r.2.2.2 = pd ∧ ∃ z : Nat, z < p ∧ (p : Int) ∣ (z : Int) - v.toInt ∧ r.1 = upd sm (12 * i + j) (nI z)) := by
  obtain ⟨p0, p1⟩ := pr_le p hp
  have hP : (nI p).toInt64.toInt = (p : Int) := by rw [Int32.toInt_toInt64, nI_toInt (by omega)]
  have hne : ¬ (nI p).toInt64 = 0 := fun e => by
    have : (nI p).toInt64.toInt = 0 := by rw [e]; rfl
    omega
  have rem : ∀ a : Int64, -60000 ≤ a.toInt → a.toInt ≤ 60000 → (a - a / (nI p).toInt64 * (nI p).toInt64).toInt = a.toInt.tmod p := by
    intro a ha1 ha2
    have e1 : (a / (nI p).toInt64).toInt = a.toInt.tdiv p := by
      rw [Int64.toInt_div_of_ne_right _ _ (fun e => by have : (nI p).toInt64.toInt = -1 := by rw [e]; rfl
                                                       omega), hP]
    have e3 := Int.mul_tdiv_add_tmod a.toInt p
    have e4 := Int.tmod_lt_of_pos a.toInt (b := p) (by omega)
    have e5 := Int.lt_tmod_of_pos a.toInt (b := p) (by omega)
    have e2 : (a / (nI p).toInt64 * (nI p).toInt64).toInt = a.toInt.tdiv p * p := by
      rw [l_mul (by rw [e1, hP, Int.mul_comm]; omega) (by rw [e1, hP, Int.mul_comm]; omega), e1, hP]
    rw [l_sub (by rw [e2, Int.mul_comm]; omega) (by rw [e2, Int.mul_comm]; omega), e2, Int.mul_comm]
    omega
  unfold f_R_lay
  refine ok_if (fun q => absurd ((nI_eq0 (by omega)).mp q) (by omega)) (fun _ => ?_)
  refine ok_nzL hne (ok_nzL hne ?_)
  rw [ix12]
  refine ok_in (vp_in_nI hij (by decide)) ?_
  rw [nI_clamp (by omega)]
  have r1 := rem v (by omega) (by omega)
  have e4 := Int.tmod_lt_of_pos v.toInt (b := p) (by omega)
  have e5 := Int.lt_tmod_of_pos v.toInt (b := p) (by omega)
  generalize hm : v - v / (nI p).toInt64 * (nI p).toInt64 = m at r1 ⊢
  have r2 : (m + (nI p).toInt64).toInt = v.toInt.tmod p + p := by rw [l_add (by rw [r1, hP]; omega) (by rw [r1, hP]; omega), r1, hP]
  have r3 := rem (m + (nI p).toInt64) (by rw [r2]; omega) (by rw [r2]; omega)
  rw [r2] at r3
  generalize (m + (nI p).toInt64) - (m + (nI p).toInt64) / (nI p).toInt64 * (nI p).toInt64 = z at r3 ⊢
  have e6 : (v.toInt.tmod p + p).tmod p = (v.toInt.tmod p + p) % p := Int.tmod_eq_emod_of_nonneg (by omega)
  rw [e6] at r3
  have z0 : 0 ≤ (v.toInt.tmod p + p) % p := Int.emod_nonneg _ (by omega)
  have z1 : (v.toInt.tmod p + p) % p < p := Int.emod_lt_of_pos _ (by omega)
  refine ok_some ⟨rfl, rfl, rfl, z.toInt.toNat, by omega, ?_, ?_⟩
  · have e3 := Int.mul_tdiv_add_tmod v.toInt p
    have e8 := Int.mul_ediv_add_emod (v.toInt.tmod p + p) p
    refine ⟨1 - (v.toInt.tmod p + p) / p - v.toInt.tdiv p, ?_⟩
    rw [Int.mul_sub, Int.mul_sub]
    omega
  · dsimp only
    congr 1
    apply Int32.toInt_inj.mp
    rw [l_i (by omega) (by omega), nI_toInt (by omega)]
    omega
