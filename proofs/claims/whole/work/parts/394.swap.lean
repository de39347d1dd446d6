theorem ix12 (i j : Nat) : (12 : Int32) * nI i + nI j = nI (12 * i + j) := by rw [show (12 : Int32) = nI 12 from rfl, pk_mul, nI_add]
/-- swap: two rows change places, as numbers and as residues -/
theorem sw_ok {pn pm sm : Nat → Int32} {pd : Nat → Nat → Int32} {V : Nat → Int} {i k n : Nat} (h : PO pn pm pd V) (hi : i ≤ 12) (hk : k ≤ 12) (hn : n ≤ 12) (hsi : ∀ j, j < n → sz (V (12 * i + j)) 150) (hsk : ∀ j, j < n → sz (V (12 * k + j)) 150) : ok (f_R_swap (nI n) sm pn pm pd (nI i) (nI k)) (fun r => ∃ V', PO r.2.1 r.2.2.1 r.2.2.2 V' ∧ (∀ j, j < n → V' (12 * i + j) = V (12 * k + j) ∧ V' (12 * k + j) = V (12 * i + j) ∧ r.1 (12 * i + j) = sm (12 * k + j) ∧ r.1 (12 * k + j) = sm (12 * i + j)) ∧ ∀ q, q < 192 → (∀ j, j < n → q ≠ 12 * i + j ∧ q ≠ 12 * k + j) → V' q = V q ∧ r.1 q = sm q) := by
  unfold f_R_swap
  refine lo5_F (fun v s qn qm qd => ∃ (j : Nat) (W : Nat → Int), j ≤ n ∧ v = nI j ∧ PO qn qm qd W ∧ (∀ p, p < j → W (12 * i + p) = V (12 * k + p) ∧ W (12 * k + p) = V (12 * i + p) ∧ s (12 * i + p) = sm (12 * k + p) ∧ s (12 * k + p) = sm (12 * i + p)) ∧ (∀ p, j ≤ p → p < n → W (12 * i + p) = V (12 * i + p) ∧ W (12 * k + p) = V (12 * k + p) ∧ s (12 * i + p) = sm (12 * i + p) ∧ s (12 * k + p) = sm (12 * k + p)) ∧ ∀ q, q < 192 → (∀ j, j < n → q ≠ 12 * i + j ∧ q ≠ 12 * k + j) → W q = V q ∧ s q = sm q) (fun v _ _ _ _ => n - v.toNatClampNeg) ?_ ⟨0, V, Nat.zero_le n, nI_0.symm, h, fun p hp => absurd hp (by omega), fun p _ _ => ⟨rfl, rfl, rfl, rfl⟩, fun q _ _ => ⟨rfl, rfl⟩⟩ (by omega)
  rintro kr v s qn qm qd ⟨j, W, hj, rfl, hP, hd, hr, ho⟩ ih
  refine ok_if (fun q => ?_) (fun q => ?_)
  · have e : j = n := by
      have := (nI_leI (by omega) (by omega)).mp q
      omega
    subst e
    exact ok_some ⟨W, hP, hd, ho⟩
  · have hlt : j < n := by
      rcases Nat.lt_or_ge j n with q1 | q1
      · exact q1
      · exact absurd ((nI_leI (by omega) (by omega)).mpr q1) q
    refine ok_if (fun q2 => ?_) (fun q2 => ?_)
    · have e : i = k := (nI_eq (by omega) (by omega)).mp q2
      subst e
      refine ok_some ⟨W, hP, fun p hp => ?_, ho⟩
      by_cases q3 : p < j
      · exact hd p q3
      · exact hr p (by omega) hp
    · have hik : i ≠ k := fun e => q2 (by rw [e])
      obtain ⟨wi, wk, si, sk⟩ := hr j (Nat.le_refl j) hlt
      refine ok_b1 (at_ok (by omega)) ?_
      rintro r8 rfl
      refine ok_p (by omega) ?_
      refine ok_b3 (xcp (hP (12 * i + j) (by omega)) (by rw [wi]; exact sz_mono (hsi j hlt) (by decide))) ?_
      intro a1 a2 a3 hu
      refine ok_nm (fun pn14 e1 => ok_nm (fun pm15 e2 => ok_nm (fun pd16 e3 => ?_)))
      have g1 : PO pn14 pm15 pd16 (vu W 192 (W (12 * i + j))) := by rw [e1, e2, e3]; exact hP.up hu
      clear e1 e2 e3 hu
      refine ok_b1 (at_ok (by omega)) ?_
      rintro r24 rfl
      refine ok_b1 (at_ok (by omega)) ?_
      rintro r26 rfl
      refine ok_p (by omega) ?_
      refine ok_b3 (xcp (g1 (12 * k + j) (by omega)) (by rw [vu_n (by omega), wk]; exact sz_mono (hsk j hlt) (by decide))) ?_
      intro b1 b2 b3 hu
      rw [vu_n (by omega)] at hu
      refine ok_nm (fun pn32 e1 => ok_nm (fun pm33 e2 => ok_nm (fun pd34 e3 => ?_)))
      have g2 : PO pn32 pm33 pd34 (vu (vu W 192 (W (12 * i + j))) (12 * i + j) (W (12 * k + j))) := by rw [e1, e2, e3]; exact g1.up hu
      clear e1 e2 e3 hu
      refine ok_b1 (at_ok (by omega)) ?_
      rintro r42 rfl
      refine ok_p (by omega) ?_
      refine ok_b3 (xcp (g2 192 (by decide)) (by rw [vu_n (by omega), vu_s, wi]; exact sz_mono (hsi j hlt) (by decide))) ?_
      intro c1 c2 c3 hu
      rw [vu_n (by omega), vu_s] at hu
      refine ok_nm (fun pn48 e1 => ok_nm (fun pm49 e2 => ok_nm (fun pd50 e3 => ?_)))
      have g3 : PO pn48 pm49 pd50 (vu (vu (vu W 192 (W (12 * i + j))) (12 * i + j) (W (12 * k + j))) (12 * k + j) (W (12 * i + j))) := by rw [e1, e2, e3]; exact g2.up hu
      clear e1 e2 e3 hu
      rw [ix12, ix12]
      refine ok_in (vp_in_nI (by omega) (by decide)) ?_
      rw [nI_clamp (by omega), nI_clamp (by omega)]
      refine ok_nm (fun x59 e5 => ?_)
      refine ok_in (vp_in_nI (by omega) (by decide)) (ok_in (vp_in_nI (by omega) (by decide)) (ok_in (vp_in_nI (by omega) (by decide)) ?_))
      refine ok_nm (fun v' hv' => ?_)
      subst hv'; subst e5
      rw [nI_1]
      refine ih _ _ _ _ _ ⟨j + 1, _, hlt, rfl, g3, ?_, ?_, ?_⟩ (by rw [nI_clamp (by omega), nI_clamp (by omega)]; omega)
      · intro p hp
        by_cases q3 : p = j
        · subst q3
          refine ⟨?_, ?_, ?_, ?_⟩
          · rw [vu_n (by omega), vu_s, wk]
          · rw [vu_s, wi]
          · rw [pk_un (by omega), pk_us, sk]
          · rw [pk_us, si]
        · obtain ⟨x1, x2, x3, x4⟩ := hd p (by omega)
          refine ⟨?_, ?_, ?_, ?_⟩
          · rw [vu_n (by omega), vu_n (by omega), vu_n (by omega), x1]
          · rw [vu_n (by omega), vu_n (by omega), vu_n (by omega), x2]
          · rw [pk_un (by omega), pk_un (by omega), x3]
          · rw [pk_un (by omega), pk_un (by omega), x4]
      · intro p hp1 hp2
        obtain ⟨x1, x2, x3, x4⟩ := hr p (by omega) hp2
        refine ⟨?_, ?_, ?_, ?_⟩
        · rw [vu_n (by omega), vu_n (by omega), vu_n (by omega), x1]
        · rw [vu_n (by omega), vu_n (by omega), vu_n (by omega), x2]
        · rw [pk_un (by omega), pk_un (by omega), x3]
        · rw [pk_un (by omega), pk_un (by omega), x4]
      · intro q hq1 hq2
        obtain ⟨y1, y2⟩ := hq2 j hlt
        obtain ⟨x1, x2⟩ := ho q hq1 hq2
        refine ⟨?_, ?_⟩
        · rw [vu_n y2, vu_n y1, vu_n (by omega), x1]
        · rw [pk_un y2, pk_un y1, x2]
