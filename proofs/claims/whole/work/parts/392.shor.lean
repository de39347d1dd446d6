theorem at_ok {i j : Nat} (h : 12 * i + j < 156) : ok (f_R_at (nI i) (nI j)) (fun r => r = 12 * i + j) := by
  unfold f_R_at
  have e : (12 : Int32) * nI i + nI j = nI (12 * i + j) := by rw [show (12 : Int32) = nI 12 from rfl, pk_mul, nI_add]
  rw [e]
  refine ok_in (vp_in_nI h (by decide)) ?_
  refine ok_nm (fun y hy => ?_)
  rw [nI_clamp (by omega)] at hy
  exact ok_some hy
theorem xio {n mi : Int32} {d : Nat → Int32} {v : Int} (h : Nx n mi d v) (hs : sz v 160) : ok (f_N_isOne n mi 160 d) (fun r => r = if v = 1 then 1 else 0) := by
  obtain ⟨c, hc, hN⟩ := Nx_len h hs
  have hz := Nu_zero hN
  have hab := Nu_abs hN
  obtain ⟨rfl, h1, h2, h3, h4, h5⟩ := hN
  have big : c ≠ 1 → v ≠ 1 := by
    intro q e
    have c0 : c ≠ 0 := fun e0 => by have := hz.mp e0; omega
    obtain ⟨j, rfl⟩ : ∃ j, c = j + 2 := ⟨c - 2, by omega⟩
    have h6 := nv_top (k := j + 1) h1 (h2 (by omega))
    have h7 := pw_pos j
    rw [Int.pow_succ] at h6
    have hab2 : nv d (j + 1 + 1) = 1 := by rw [e] at hab; exact hab.symm
    omega
  have e1 : (1 : Int32) = nI 1 := rfl
  unfold f_N_isOne
  refine ok_if (fun q => ?_) (fun q => ?_)
  · rw [e1] at q
    have c1 := (nI_eq (by omega) (by omega)).mp q
    subst c1
    refine ok_in (vp_in_nI (n := 0) (by decide) (by decide)) ?_
    have hd0 : (d (0 : Int32).toNatClampNeg) = d 0 := rfl
    have hv1 : nv d 1 = (d 0).toInt := by simp [nv]
    refine ok_if (fun q2 => ?_) (fun q2 => ?_)
    · rw [hd0] at q2
      have hv2 : nv d 1 = 1 := by rw [hv1, q2]; rfl
      refine ok_if (fun q3 => ?_) (fun q3 => ?_)
      · refine ok_some ?_
        rw [if_pos (by rw [h5, if_pos q3, hv2])]
      · refine ok_some ?_
        rw [if_neg (by rw [h5, if_neg q3, hv2]; decide)]
    · rw [hd0] at q2
      refine ok_some ?_
      rw [if_neg ?_]
      intro e
      rw [e] at hab
      simp at hab
      apply q2
      apply Int32.toInt_inj.mp
      rw [← hv1, ← hab]; rfl
  · refine ok_some ?_
    rw [if_neg (big (fun e => q (by rw [e]; rfl)))]
/-- the greatest common divisor of a stretch -/
def rg (V : Nat → Int) (b : Nat) : Nat → Nat
  | 0 => 0
  | n + 1 => Int.gcd (rg V b n) (V (b + n))
theorem rg_congr {V W : Nat → Int} {b n : Nat} (h : ∀ j, j < n → V (b + j) = W (b + j)) : rg V b n = rg W b n := by
  induction n with
  | zero => rfl
  | succ n ih => simp only [rg]; rw [ih (fun j hj => h j (by omega)), h n (by omega)]
theorem rg_dvd {V : Nat → Int} {b n j : Nat} (h : j < n) : (rg V b n : Int) ∣ V (b + j) := by
  induction n with
  | zero => omega
  | succ n ih =>
    simp only [rg]
    by_cases q : j = n
    · subst q; exact Int.gcd_dvd_right ..
    · exact Int.dvd_trans (Int.gcd_dvd_left ..) (ih (by omega))
theorem rg_sz {V : Nat → Int} {b n c : Nat} (h : ∀ j, j < n → sz (V (b + j)) c) : sz (rg V b n : Int) c := by
  have hp := pw_pos c
  induction n with
  | zero => exact ⟨by simp [rg]; omega, by simp [rg]; omega⟩
  | succ n ih =>
    have h1 := ih (fun j hj => h j (by omega))
    have h2 := h n (by omega)
    simp only [rg]
    by_cases q : rg V b n = 0
    · rw [q]
      have e : Int.gcd ((0 : Nat) : Int) (V (b + n)) = (V (b + n)).natAbs := by simp
      rw [e]
      have a := h2.1
      have b := h2.2
      exact ⟨by omega, by omega⟩
    · have h3 : Int.gcd (rg V b n : Int) (V (b + n)) ≤ rg V b n := Int.gcd_le_natAbs_left _ (by omega)
      have a := h1.2
      exact ⟨by omega, by omega⟩
theorem tdiv_sz {v : Int} {g c : Nat} (h : sz v c) : sz (v.tdiv g) c := by
  have h1 : (v.tdiv g).natAbs ≤ v.natAbs := by
    rw [Int.natAbs_tdiv]; exact Nat.div_le_self _ _
  have a := h.1
  have b := h.2
  exact ⟨by omega, by omega⟩
/-- shorten: a row is divided by its greatest common divisor; one to five and eight are used -/
theorem sh_ok {pn pm : Nat → Int32} {pd : Nat → Nat → Int32} {V : Nat → Int} {i n : Nat} (h : PO pn pm pd V) (hi : i ≤ 12) (hn : n ≤ 12) (hs : ∀ j, j < n → sz (V (12 * i + j)) 150) : ok (f_R_shorten (nI n) pn pm pd (nI i)) (fun r => ∃ V', PO r.1 r.2.1 r.2.2 V' ∧ (∀ j, j < n → V' (12 * i + j) = (V (12 * i + j)).tdiv (rg V (12 * i) n)) ∧ ∀ k, (k < 192 ∨ k = 197 ∨ k = 198) → (∀ j, j < n → k ≠ 12 * i + j) → V' k = V k) := by
  unfold f_R_shorten
  refine ok_b2 (Q1 := fun r => r = (0, 0)) ⟨_, rfl, rfl⟩ ?_
  rintro u1 u2 hu
  have hu1 := (Prod.mk.inj hu).1
  have hu2 := (Prod.mk.inj hu).2
  subst hu1; subst hu2
  refine ok_nm (fun pn3 e1 => ok_nm (fun pm4 e2 => ?_))
  have h0 : PO pn3 pm4 pd (vu V 199 0) := by
    intro k hk
    by_cases q : k = 199
    · subst q
      rw [e1, e2, pk_us, pk_us, vu_s]
      exact ⟨0, rfl, fun j hj => absurd hj (by omega), fun hh => absurd hh (by omega), Or.inl rfl, fun _ => rfl, by simp [nv]⟩
    · rw [e1, e2, pk_un q, pk_un q, vu_n q]; exact h k hk
  clear e1 e2
  have hg := rg_sz hs
  refine ok_jn (fun k48 => ∀ (qn qm : Nat → Int32) (qd : Nat → Nat → Int32) (W : Nat → Int), PO qn qm qd W → W 199 = (rg V (12 * i) n : Int) → (∀ k, (k < 192 ∨ k = 197 ∨ k = 198) → W k = V k) → ok (k48 qn qm qd) (fun r => ∃ V', PO r.1 r.2.1 r.2.2 V' ∧ (∀ j, j < n → V' (12 * i + j) = (V (12 * i + j)).tdiv (rg V (12 * i) n)) ∧ ∀ k, (k < 192 ∨ k = 197 ∨ k = 198) → (∀ j, j < n → k ≠ 12 * i + j) → V' k = V k)) ?_ ?_
  · intro qn qm qd W hW h8 hk
    generalize hgg : rg V (12 * i) n = g at *
    refine lo4_F (fun v qn qm qd => ∃ (j : Nat) (W : Nat → Int), j ≤ n ∧ v = nI j ∧ PO qn qm qd W ∧ W 199 = (g : Int) ∧ (∀ p, p < j → W (12 * i + p) = (V (12 * i + p)).tdiv g) ∧ (∀ p, j ≤ p → p < n → W (12 * i + p) = V (12 * i + p)) ∧ ∀ k, (k < 192 ∨ k = 197 ∨ k = 198) → (∀ j, j < n → k ≠ 12 * i + j) → W k = V k) (fun v _ _ _ => n - v.toNatClampNeg) ?_ ⟨0, W, Nat.zero_le n, nI_0.symm, hW, h8, fun p hp => absurd hp (by omega), fun p _ hp => hk _ (Or.inl (by omega)), fun k hk1 _ => hk k hk1⟩ (by omega)
    rintro kr v qn qm qd ⟨j, W, hj, rfl, hP, h8, hd, hs2, ho⟩ ih
    have done : (∀ p, p < n → W (12 * i + p) = (V (12 * i + p)).tdiv g) → ok (some (qn, qm, qd)) (fun r => ∃ V', PO r.1 r.2.1 r.2.2 V' ∧ (∀ j, j < n → V' (12 * i + j) = (V (12 * i + j)).tdiv g) ∧ ∀ k, (k < 192 ∨ k = 197 ∨ k = 198) → (∀ j, j < n → k ≠ 12 * i + j) → V' k = V k) := fun hh => ok_some ⟨W, hP, hh, ho⟩
    have h8s : sz (W 199) 150 := by rw [h8]; exact hg
    refine ok_if (fun q => ?_) (fun q => ?_)
    · have e : j = n := by
        have := (nI_leI (by omega) (by omega)).mp q
        omega
      subst e
      exact done hd
    · have hlt : j < n := by
        rcases Nat.lt_or_ge j n with q1 | q1
        · exact q1
        · exact absurd ((nI_leI (by omega) (by omega)).mpr q1) q
      obtain ⟨c, hc, hN⟩ := Nx_len (hP 199 (by decide)) h8s
      have hz := Nu_zero hN
      refine ok_if (fun q1 => ?_) (fun q1 => ?_)
      · rw [hN.1] at q1
        have g0 : g = 0 := by have := hz.mp ((nI_le0 (by omega)).mp q1); rw [h8] at this; omega
        refine done (fun p hp => ?_)
        by_cases q2 : p < j
        · exact hd p q2
        · have h9 := rg_dvd (V := V) (b := 12 * i) hp
          rw [hgg, g0] at h9
          have h10 : V (12 * i + p) = 0 := Int.zero_dvd.mp h9
          rw [hs2 p (by omega) hp, h10]; simp
      · have g0 : g ≠ 0 := by
          intro e
          apply q1
          rw [hN.1]
          exact (nI_le0 (by omega)).mpr (hz.mpr (by rw [h8, e]; rfl))
        refine ok_b1 (xio (hP 199 (by decide)) (sz_mono h8s (by decide))) ?_
        intro r17 hr
        refine ok_if (fun q2 => ?_) (fun q2 => ?_)
        · refine ok_b1 (at_ok (by omega)) ?_
          rintro r20 rfl
          refine ok_p ⟨by omega, by decide, by decide, by omega, by omega, by decide⟩ ?_
          have hv : W (12 * i + j) = V (12 * i + j) := hs2 j (Nat.le_refl j) hlt
          refine ok_b6 (xqt (hP (12 * i + j) (by omega)) (hP 199 (by decide)) (by rw [hv]; exact sz_mono (hs j hlt) (by decide)) (sz_mono h8s (by decide)) (by rw [h8]; omega)) ?_
          rintro v1 v2 v3 v4 v5 v6 ⟨hq, hr2⟩
          dsimp only at hq hr2
          refine ok_nm (fun pn29 e1 => ok_nm (fun pm30 e2 => ok_nm (fun pd31 e3 => ?_)))
          have g1 : PO pn29 pm30 pd31 (vu (vu W 192 ((W (12 * i + j)).tdiv (W 199))) 193 ((W (12 * i + j)).natAbs % (W 199).natAbs : Nat)) := by rw [e1, e2, e3]; exact (hP.up hq).up hr2
          clear e1 e2 e3 hq hr2
          generalize hW1 : vu (vu W 192 ((W (12 * i + j)).tdiv (W 199))) 193 ((W (12 * i + j)).natAbs % (W 199).natAbs : Nat) = W1 at g1
          have j2 : W1 192 = (V (12 * i + j)).tdiv g := by rw [← hW1, vu_n (by decide), vu_s, hv, h8]
          refine ok_b1 (at_ok (by omega)) ?_
          rintro r45 rfl
          refine ok_p (by omega) ?_
          refine ok_b3 (xcp (g1 192 (by decide)) (by rw [j2]; exact sz_mono (tdiv_sz (hs j hlt)) (by decide))) ?_
          intro w1 w2 w3 hu
          refine ok_nm (fun pn51 e1 => ok_nm (fun pm52 e2 => ok_nm (fun pd53 e3 => ok_nm (fun v' hv' => ?_))))
          have g2 : PO pn51 pm52 pd53 (vu W1 (12 * i + j) (W1 192)) := by rw [e1, e2, e3]; exact g1.up hu
          subst hv'
          rw [nI_1]
          refine ih _ _ _ _ ⟨j + 1, _, hlt, rfl, g2, ?_, ?_, ?_, ?_⟩ (by rw [nI_clamp (by omega), nI_clamp (by omega)]; omega)
          · rw [vu_n (by omega), ← hW1, vu_n (by decide), vu_n (by decide), h8]
          · intro p hp
            by_cases q3 : p = j
            · subst q3; rw [vu_s, j2]
            · rw [vu_n (by omega), ← hW1, vu_n (by omega), vu_n (by omega)]; exact hd p (by omega)
          · intro p hp1 hp2
            rw [vu_n (by omega), ← hW1, vu_n (by omega), vu_n (by omega)]; exact hs2 p (by omega) hp2
          · intro k hk1 hk2
            rw [vu_n (hk2 j hlt), ← hW1, vu_n (by omega), vu_n (by omega)]; exact ho k hk1 hk2
        · have g1 : g = 1 := by
            by_cases q3 : W 199 = 1
            · rw [h8] at q3; omega
            · rw [if_neg q3] at hr; exact absurd hr q2
          refine done (fun p hp => ?_)
          by_cases q3 : p < j
          · exact hd p q3
          · rw [hs2 p (by omega) hp, g1]; simp
  · intro k48 hC
    refine lo4_F (fun v qn qm qd => ∃ (j : Nat) (W : Nat → Int), j ≤ n ∧ v = nI j ∧ PO qn qm qd W ∧ W 199 = (rg V (12 * i) j : Int) ∧ ∀ k, (k < 192 ∨ k = 197 ∨ k = 198) → W k = V k) (fun v _ _ _ => n - v.toNatClampNeg) ?_ ⟨0, _, Nat.zero_le n, nI_0.symm, h0, by rw [vu_s]; rfl, fun k hk => vu_n (by omega)⟩ (by omega)
    rintro kr v qn qm qd ⟨j, W, hj, rfl, hP, h8, ho⟩ ih
    refine ok_if (fun q => ?_) (fun q => ?_)
    · have e : j = n := by
        have := (nI_leI (by omega) (by omega)).mp q
        omega
      subst e
      exact hC qn qm qd W hP h8 ho
    · have hlt : j < n := by
        rcases Nat.lt_or_ge j n with q1 | q1
        · exact q1
        · exact absurd ((nI_leI (by omega) (by omega)).mpr q1) q
      refine ok_b1 (at_ok (by omega)) ?_
      rintro r67 rfl
      have hv : W (12 * i + j) = V (12 * i + j) := ho _ (Or.inl (by omega))
      refine ok_b3 (dv_ok hP (by decide) (by omega) (by decide) (by omega) (by omega) (by rw [h8]; exact rg_sz (fun p hp => hs p (by omega))) (by rw [hv]; exact hs j hlt)) ?_
      rintro u4 u5 u6 ⟨W1, g1, g2, g3⟩
      dsimp only at g1
      have j6 : W1 196 = (rg V (12 * i) (j + 1) : Int) := by rw [g2, h8, hv]; rfl
      refine ok_p (by decide) ?_
      refine ok_b3 (xcp (g1 196 (by decide)) (by rw [j6]; exact sz_mono (rg_sz (fun p hp => hs p (by omega))) (by decide))) ?_
      intro w1 w2 w3 hu
      refine ok_nm (fun pn77 e1 => ok_nm (fun pm78 e2 => ok_nm (fun pd79 e3 => ok_nm (fun v' hv' => ?_))))
      have g4 : PO pn77 pm78 pd79 (vu W1 199 (W1 196)) := by rw [e1, e2, e3]; exact g1.up hu
      subst hv'
      rw [nI_1]
      refine ih _ _ _ _ ⟨j + 1, _, hlt, rfl, g4, by rw [vu_s, j6], fun k hk => ?_⟩ (by rw [nI_clamp (by omega), nI_clamp (by omega)]; omega)
      rw [vu_n (by omega), g3 k (by omega) (by omega) (by omega) (by omega)]
      exact ho k hk
