theorem sz_of' {v : Int} {b : Nat} (h : v.natAbs < 2 ^ (16 * b)) : sz v b := by
  have := sz_of h
  exact ⟨by have := this.2; omega, by have := this.2; omega⟩
theorem sz_mul {a b : Int} {p q : Nat} (ha : sz a p) (hb : sz b q) : sz (a * b) (p + q) := by
  apply sz_of'
  rw [Int.natAbs_mul, Nat.mul_add, Nat.pow_add]
  exact Nat.mul_lt_mul'' (sz_nat ha) (sz_nat hb)
theorem sz_sub {a b : Int} {p : Nat} (ha : sz a p) (hb : sz b p) : sz (a - b) (p + 1) := by
  have h1 := pw_pos p
  unfold sz
  rw [Int.pow_succ]
  have := ha.1; have := ha.2; have := hb.1; have := hb.2
  omega
theorem sz_neg {a : Int} {p : Nat} (ha : sz a p) : sz (-a) p := ⟨by have := ha.2; omega, by have := ha.1; omega⟩
/-- take, over the rationals: row i times the pivot less row k times what row i has there, made short -/
theorem tk_ok {pn pm sm : Nat → Int32} {pd : Nat → Nat → Int32} {V : Nat → Int} {i k col n : Nat} (h : PO pn pm pd V) (hi : i ≤ 12) (hk : k ≤ 12) (hik : i ≠ k) (hn : n ≤ 12) (hc : col < n) (hsi : ∀ j, j < n → sz (V (12 * i + j)) 70) (hsk : ∀ j, j < n → sz (V (12 * k + j)) 70) : ok (f_R_take (nI n) 0 sm pn pm pd (nI i) (nI k) (nI col)) (fun r => r.1 = sm ∧ ∃ V', PO r.2.1 r.2.2.1 r.2.2.2 V' ∧ (∃ U : Nat → Int, (∀ j, j < n → U j = V (12 * i + j) * V (12 * k + col) - V (12 * k + j) * V (12 * i + col)) ∧ ∀ j, j < n → V' (12 * i + j) = (U j).tdiv (rg U 0 n)) ∧ ∀ q, q < 192 → (∀ j, j < n → q ≠ 12 * i + j) → V' q = V q) := by
  unfold f_R_take
  refine ok_if (fun _ => ?_) (fun q => absurd (by decide) q)
  refine ok_b1 (at_ok (by omega)) ?_
  rintro r2 rfl
  refine ok_p (by omega) ?_
  refine ok_b3 (xcp (h (12 * k + col) (by omega)) (sz_mono (hsk col hc) (by decide))) ?_
  intro u1 u2 u3 hu
  refine ok_nm (fun pn8 e1 => ok_nm (fun pm9 e2 => ok_nm (fun pd10 e3 => ?_)))
  have h1 : PO pn8 pm9 pd10 (vu V 197 (V (12 * k + col))) := by rw [e1, e2, e3]; exact h.up hu
  clear e1 e2 e3 hu
  refine ok_b1 (at_ok (by omega)) ?_
  rintro r18 rfl
  refine ok_p (by omega) ?_
  refine ok_b3 (xcp (h1 (12 * i + col) (by omega)) (by rw [vu_n (by omega)]; exact sz_mono (hsi col hc) (by decide))) ?_
  intro u1' u2' u3' hu
  refine ok_nm (fun pn24 e1 => ok_nm (fun pm25 e2 => ok_nm (fun pd26 e3 => ?_)))
  have h2 : PO pn24 pm25 pd26 (vu (vu V 197 (V (12 * k + col))) 198 (V (12 * i + col))) := by
    have := h1.up (k := 198) hu
    rw [vu_n (by omega)] at this
    rw [e1, e2, e3]; exact this
  clear e1 e2 e3 hu h1
  generalize hV2 : vu (vu V 197 (V (12 * k + col))) 198 (V (12 * i + col)) = V2 at h2
  have i7 : V2 197 = V (12 * k + col) := by rw [← hV2, vu_n (by decide), vu_s]
  have i8 : V2 198 = V (12 * i + col) := by rw [← hV2, vu_s]
  have io : ∀ q, q < 192 → V2 q = V q := fun q hq => by rw [← hV2, vu_n (by omega), vu_n (by omega)]
  refine ok_jn (fun k222 => ∀ (qn qm : Nat → Int32) (qd : Nat → Nat → Int32) (W : Nat → Int), PO qn qm qd W → (∀ j, j < n → W (12 * i + j) = V (12 * i + j) * V (12 * k + col) - V (12 * k + j) * V (12 * i + col)) → (∀ q, q < 192 → (∀ j, j < n → q ≠ 12 * i + j) → W q = V q) → ok (k222 qn qm qd) (fun r => r.1 = sm ∧ ∃ V', PO r.2.1 r.2.2.1 r.2.2.2 V' ∧ (∃ U : Nat → Int, (∀ j, j < n → U j = V (12 * i + j) * V (12 * k + col) - V (12 * k + j) * V (12 * i + col)) ∧ ∀ j, j < n → V' (12 * i + j) = (U j).tdiv (rg U 0 n)) ∧ ∀ q, q < 192 → (∀ j, j < n → q ≠ 12 * i + j) → V' q = V q)) ?_ ?_
  · intro qn qm qd W hW hrow ho
    refine ok_b3 (sh_ok hW hi hn (fun j hj => ?_)) ?_
    · rw [hrow j hj]
      exact sz_mono (sz_sub (sz_mul (hsi j hj) (hsk col hc)) (sz_mul (hsk j hj) (hsi col hc))) (by decide)
    · rintro v1 v2 v3 ⟨V', g1, g2, g3⟩
      dsimp only at g1
      refine ok_some ⟨rfl, V', g1, ⟨fun j => W (12 * i + j), hrow, fun j hj => ?_⟩, fun q hq1 hq2 => ?_⟩
      · rw [g2 j hj]
        have e : rg W (12 * i) n = rg (fun j => W (12 * i + j)) 0 n := by
          clear g1 g2 g3 hrow
          induction n with
          | zero => rfl
          | succ m ih => simp only [rg]; rw [show rg W (12 * i) m = rg (fun j => W (12 * i + j)) 0 m from by
              have : ∀ m, rg W (12 * i) m = rg (fun j => W (12 * i + j)) 0 m := by
                intro m
                induction m with
                | zero => rfl
                | succ m ih => simp only [rg]; rw [ih, Nat.zero_add]
              exact this m, Nat.zero_add]
        rw [e]
      · rw [g3 q (Or.inl hq1) hq2]; exact ho q hq1 hq2
  · intro k222 hC
    refine lo4_F (fun v qn qm qd => ∃ (j : Nat) (W : Nat → Int), j ≤ n ∧ v = nI j ∧ PO qn qm qd W ∧ W 197 = V (12 * k + col) ∧ W 198 = V (12 * i + col) ∧ (∀ p, p < j → W (12 * i + p) = V (12 * i + p) * V (12 * k + col) - V (12 * k + p) * V (12 * i + col)) ∧ (∀ p, j ≤ p → p < n → W (12 * i + p) = V (12 * i + p)) ∧ ∀ q, q < 192 → (∀ j, j < n → q ≠ 12 * i + j) → W q = V q) (fun v _ _ _ => n - v.toNatClampNeg) ?_ ⟨0, V2, Nat.zero_le n, nI_0.symm, h2, i7, i8, fun p hp => absurd hp (by omega), fun p _ hp => io _ (by omega), fun q hq _ => io q hq⟩ (by omega)
    rintro kr v qn qm qd ⟨j, W, hj, rfl, hP, w7, w8, hd, hs2, ho⟩ ih
    refine ok_if (fun q => ?_) (fun q => ?_)
    · have e : j = n := by
        have := (nI_leI (by omega) (by omega)).mp q
        omega
      subst e
      exact hC qn qm qd W hP hd ho
    · have hlt : j < n := by
        rcases Nat.lt_or_ge j n with q1 | q1
        · exact q1
        · exact absurd ((nI_leI (by omega) (by omega)).mpr q1) q
      have wi : W (12 * i + j) = V (12 * i + j) := hs2 j (Nat.le_refl j) hlt
      have wk : W (12 * k + j) = V (12 * k + j) := ho _ (by omega) (fun p hp => by omega)
      refine ok_b1 (at_ok (by omega)) ?_
      rintro r46 rfl
      refine ok_p ⟨by omega, by decide, by omega⟩ ?_
      refine ok_b3 (xpr (p := 70) (q := 70) (hP (12 * i + j) (by omega)) (hP 197 (by decide)) (by rw [wi]; exact hsi j hlt) (by rw [w7]; exact hsk col hc) (by decide)) ?_
      intro a1 a2 a3 hu
      refine ok_nm (fun pn52 e1 => ok_nm (fun pm53 e2 => ok_nm (fun pd54 e3 => ?_)))
      have g1 : PO pn52 pm53 pd54 (vu W 192 (W (12 * i + j) * W 197)) := by rw [e1, e2, e3]; exact hP.up hu
      clear e1 e2 e3 hu
      refine ok_b1 (at_ok (by omega)) ?_
      rintro r65 rfl
      refine ok_p ⟨by omega, by decide, by omega⟩ ?_
      refine ok_b3 (xpr (p := 70) (q := 70) (g1 (12 * k + j) (by omega)) (g1 198 (by decide)) (by rw [vu_n (by omega), wk]; exact hsk j hlt) (by rw [vu_n (by decide), w8]; exact hsi col hc) (by decide)) ?_
      intro b1 b2 b3 hu
      rw [vu_n (by omega), vu_n (by decide)] at hu
      refine ok_nm (fun pn71 e1 => ok_nm (fun pm72 e2 => ok_nm (fun pd73 e3 => ?_)))
      have g2 : PO pn71 pm72 pd73 (vu (vu W 192 (W (12 * i + j) * W 197)) 193 (W (12 * k + j) * W 198)) := by rw [e1, e2, e3]; exact g1.up hu
      clear e1 e2 e3 hu
      refine ok_b1 (at_ok (by omega)) ?_
      rintro r84 rfl
      refine ok_p ⟨by omega, by omega, by decide⟩ ?_
      have m2 : vu (vu W 192 (W (12 * i + j) * W 197)) 193 (W (12 * k + j) * W 198) 192 = V (12 * i + j) * V (12 * k + col) := by rw [vu_n (by decide), vu_s, wi, w7]
      have m3 : vu (vu W 192 (W (12 * i + j) * W 197)) 193 (W (12 * k + j) * W 198) 193 = V (12 * k + j) * V (12 * i + col) := by rw [vu_s, wk, w8]
      refine ok_b3 (xls (g2 192 (by decide)) (g2 193 (by decide)) (by rw [m2]; exact sz_mono (sz_mul (hsi j hlt) (hsk col hc)) (by decide)) (by rw [m3]; exact sz_mono (sz_mul (hsk j hlt) (hsi col hc)) (by decide))) ?_
      intro c1 c2 c3 hu
      rw [m2, m3] at hu
      refine ok_nm (fun pn90 e1 => ok_nm (fun pm91 e2 => ok_nm (fun pd92 e3 => ok_nm (fun v' hv' => ?_))))
      have g3 : PO pn90 pm91 pd92 (vu (vu (vu W 192 (W (12 * i + j) * W 197)) 193 (W (12 * k + j) * W 198)) (12 * i + j) (V (12 * i + j) * V (12 * k + col) - V (12 * k + j) * V (12 * i + col))) := by rw [e1, e2, e3]; exact g2.up hu
      subst hv'
      rw [nI_1]
      refine ih _ _ _ _ ⟨j + 1, _, hlt, rfl, g3, ?_, ?_, ?_, ?_, ?_⟩ (by rw [nI_clamp (by omega), nI_clamp (by omega)]; omega)
      · rw [vu_n (by omega), vu_n (by decide), vu_n (by decide), w7]
      · rw [vu_n (by omega), vu_n (by decide), vu_n (by decide), w8]
      · intro p hp
        by_cases q3 : p = j
        · subst q3; rw [vu_s]
        · rw [vu_n (by omega), vu_n (by omega), vu_n (by omega)]; exact hd p (by omega)
      · intro p hp1 hp2
        rw [vu_n (by omega), vu_n (by omega), vu_n (by omega)]; exact hs2 p (by omega) hp2
      · intro q hq1 hq2
        rw [vu_n (hq2 j hlt), vu_n (by omega), vu_n (by omega)]; exact ho q hq1 hq2
