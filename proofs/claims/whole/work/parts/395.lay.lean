theorem xsm {x : Nat → Int32} {v : Int64} (h1 : -50000 ≤ v.toInt) (h2 : v.toInt ≤ 50000) : ok (f_N_small 160 x v) (fun r => Nx r.1 r.2.1 r.2.2 v.toInt) := by
  unfold f_N_small
  refine ok_b2 (Q1 := fun r => r = (0, 0)) ⟨_, rfl, rfl⟩ ?_
  rintro u1 u2 hu
  have hu1 := (Prod.mk.inj hu).1
  have hu2 := (Prod.mk.inj hu).2
  subst hu1; subst hu2
  refine ok_jn (fun k16 => ok (k16 (if 0 ≤ v.toInt then 0 else 1)) (fun r => Nx r.1 r.2.1 r.2.2 v.toInt)) ?_ ?_
  · generalize hmi : (if 0 ≤ v.toInt then (0 : Int32) else 1) = mi
    have hmz : mi = 0 ∨ mi = 1 := by
      rw [← hmi]; split
      · exact Or.inl rfl
      · exact Or.inr rfl
    refine ok_z hmz ?_
    refine ok_jn (fun k31 => ∀ w : Int64, w.toInt = v.toInt.natAbs → ok (k31 w) (fun r => Nx r.1 r.2.1 r.2.2 v.toInt)) ?_ ?_
    · intro w hw
      refine lo3_F (fun t n d => ∃ c : Nat, n = nI c ∧ 0 ≤ t.toInt ∧ dg d c ∧ (t.toInt = 0 → nt d c) ∧ nv d c + t.toInt * 65536 ^ c = v.toInt.natAbs) (fun t _ _ => t.toInt.toNat) ?_ ⟨0, nI_0.symm, by omega, fun j hj => absurd hj (by omega), fun _ hh => absurd hh (by omega), by simp [nv, hw]⟩ (by omega)
      rintro kr t n d ⟨c, rfl, ht0, hd, hnt, he⟩ ih
      refine ok_if (fun q => ?_) (fun q => ?_)
      · have t0 : t.toInt = 0 := by have := (lc_le t).mp q; omega
        rw [t0] at he
        refine ok_some ⟨c, rfl, hd, hnt t0, hmz, fun e => ?_, ?_⟩
        · subst e
          simp only [nv] at he
          rw [← hmi, if_pos (by omega)]
        · dsimp only
          rw [← hmi]
          by_cases q2 : 0 ≤ v.toInt
          · rw [if_pos q2, if_pos rfl]; omega
          · rw [if_neg q2, if_neg (by decide)]; omega
      · have t0 : 0 < t.toInt := by
          rcases Int.lt_or_le 0 t.toInt with q1 | q1
          · exact q1
          · exact absurd ((lc_le t).mpr q1) q
        have c0 : c = 0 := by
          rcases Nat.eq_zero_or_pos c with q1 | q1
          · exact q1
          · exfalso
            have h5 := nv_nn hd
            have h6 : (65536 : Int) ^ 1 ≤ 65536 ^ c := pw_mono q1
            have h7 : 1 * 65536 ^ c ≤ t.toInt * 65536 ^ c := Int.mul_le_mul_of_nonneg_right (by omega) (Int.le_of_lt (pw_pos c))
            omega
        subst c0
        refine ok_in (vp_in_nI (by decide) (by decide)) ?_
        obtain ⟨q1, q2⟩ := l_dm (a := t) ht0
        have q3 : ((t - t / 65536 * 65536).toInt32).toInt = t.toInt % 65536 := by rw [l_i (by rw [q2]; omega) (by rw [q2]; omega), q2]
        refine ok_nm (fun y hy => ?_)
        subst hy
        rw [nI_1, nI_clamp (by decide)]
        refine ih _ _ _ ⟨1, rfl, by rw [q1]; omega, dg_upd hd (by rw [q3]; omega) (by rw [q3]; omega), fun e _ => ?_, ?_⟩ (by rw [q1]; omega)
        · rw [q1] at e
          intro e2
          rw [show 1 - 1 = 0 from rfl, pk_us] at e2
          have e3 : ((t - t / 65536 * 65536).toInt32).toInt = 0 := by rw [e2]; rfl
          rw [q3] at e3
          omega
        · rw [show (1 : Nat) = 0 + 1 from rfl, nv_upd, q3, q1]
          simp only [nv] at he ⊢
          simp at he ⊢
          omega
    · intro k31 hk
      refine ok_if (fun q => ?_) (fun q => ?_)
      · have := (lc_ge v).mp q
        exact hk v (by omega)
      · have q1 : ¬ 0 ≤ v.toInt := fun e => q ((lc_ge v).mpr e)
        exact hk (-v) (by rw [l_neg (by omega)]; omega)
  · intro k16 h
    refine ok_if (fun q => ?_) (fun q => ?_)
    · rw [if_pos ((lc_ge v).mp q)] at h; exact h
    · rw [if_neg (fun e => q ((lc_ge v).mpr e))] at h; exact h
theorem xtu {n mi : Int32} {d : Nat → Int32} {v : Int} (h : Nx n mi d v) (hs : sz v 160) : ok (f_N_turn n mi) (fun r => Nx n r d (-v)) := by
  obtain ⟨c, hc, hN⟩ := Nx_len h hs
  obtain ⟨rfl, h1, h2, h3, h4, h5⟩ := hN
  unfold f_N_turn
  refine ok_if (fun q => ?_) (fun q => ?_)
  · have c0 := (nI_le0 (by omega)).mp q
    subst c0
    refine ok_some ⟨0, rfl, h1, h2, Or.inl rfl, fun _ => rfl, ?_⟩
    rw [h5]; simp [nv]
  · have c0 : c ≠ 0 := fun e => q ((nI_le0 (by omega)).mpr e)
    refine ok_if (fun q2 => ?_) (fun q2 => ?_)
    · refine ok_some ⟨c, rfl, h1, h2, Or.inr rfl, fun e => absurd e c0, ?_⟩
      rw [h5, if_pos q2, if_neg (by decide)]
    · refine ok_some ⟨c, rfl, h1, h2, Or.inl rfl, fun _ => rfl, ?_⟩
      rw [h5, if_neg q2, if_pos rfl]; omega
/-- isZero over the rationals -/
theorem iz_ok {pn pm sm : Nat → Int32} {pd : Nat → Nat → Int32} {V : Nat → Int} {i j : Nat} (h : PO pn pm pd V) (hij : 12 * i + j < 156) (hs : sz (V (12 * i + j)) 150) : ok (f_R_isZero 0 sm pn (nI i) (nI j)) (fun r => r = if V (12 * i + j) = 0 then 1 else 0) := by
  unfold f_R_isZero
  refine ok_if (fun _ => ?_) (fun q => absurd rfl q)
  refine ok_b1 (at_ok hij) ?_
  rintro r rfl
  obtain ⟨c, hc, hN⟩ := Nx_len (h (12 * i + j) (by omega)) hs
  have hz := Nu_zero hN
  refine ok_if (fun q => ?_) (fun q => ?_)
  · rw [hN.1] at q
    refine ok_some ?_
    rw [if_pos (hz.mp ((nI_eq0 (by omega)).mp q))]
  · refine ok_some ?_
    rw [if_neg ?_]
    intro e
    apply q
    rw [hN.1]
    exact (nI_eq0 (by omega)).mpr (hz.mpr e)
/-- isZero in a prime field -/
theorem izp_ok {pn sm : Nat → Int32} {p i j : Nat} (hp0 : p ≠ 0) (hp : p < 2 ^ 31) (hij : 12 * i + j < 156) : ok (f_R_isZero (nI p) sm pn (nI i) (nI j)) (fun r => r = if sm (12 * i + j) = 0 then 1 else 0) := by
  unfold f_R_isZero
  refine ok_if (fun q => absurd ((nI_eq0 hp).mp q) hp0) (fun _ => ?_)
  rw [ix12]
  refine ok_in (vp_in_nI hij (by decide)) ?_
  rw [nI_clamp (by omega)]
  refine ok_if (fun q => ?_) (fun q => ?_)
  · exact ok_some (by rw [if_pos q])
  · exact ok_some (by rw [if_neg q])
theorem ly_ok {pn pm sm : Nat → Int32} {pd : Nat → Nat → Int32} {V : Nat → Int} {i j : Nat} {v : Int64} (h : PO pn pm pd V) (hij : 12 * i + j < 156) (h1 : -50000 ≤ v.toInt) (h2 : v.toInt ≤ 50000) : ok (f_R_lay 0 sm pn pm pd (nI i) (nI j) v) (fun r => r.1 = sm ∧ PO r.2.1 r.2.2.1 r.2.2.2 (vu V (12 * i + j) v.toInt)) := by
  unfold f_R_lay
  refine ok_if (fun _ => ?_) (fun q => absurd rfl q)
  refine ok_b1 (at_ok hij) ?_
  rintro r rfl
  refine ok_b3 (xsm h1 h2) ?_
  intro u1 u2 u3 hu
  refine ok_nm (fun a e1 => ok_nm (fun b e2 => ok_nm (fun c e3 => ?_)))
  exact ok_some ⟨rfl, by rw [e1, e2, e3]; exact h.up hu⟩
