/-! begin, put, columns; no such table -/
theorem f144_ok {a : Nat → Int32} : ok (f_fillI 144 a 0) (fun r => ∀ k, k < 144 → r k = 0) := by
  unfold f_fillI
  refine ok_nmr (nI 144) rfl ?_
  refine lo2_F (fun v w => ∃ k : Nat, k ≤ 144 ∧ v = nI k ∧ ∀ j, j < k → w j = 0) (fun v _ => 144 - v.toNatClampNeg) ?_ ⟨0, by omega, nI_0.symm, fun j hj => absurd hj (by omega)⟩ (by omega)
  rintro kr v w ⟨k, hk, rfl, h1⟩ ih
  refine ok_if (fun q => ?_) (fun q => ?_)
  · have e : k = 144 := by
      have := (nI_leI (by omega) (by omega)).mp q
      omega
    subst e
    exact ok_some h1
  · have hlt : k < 144 := by
      rcases Nat.lt_or_ge k 144 with q1 | q1
      · exact q1
      · exact absurd ((nI_leI (by omega) (by omega)).mpr q1) q
    refine ok_in (vp_in_nI hlt (by decide)) ?_
    refine ok_nmr (nI (k + 1)) (nI_1 ..) ?_
    rw [nI_clamp (by omega)]
    refine ih _ _ ⟨k + 1, hlt, rfl, fun j hj => ?_⟩ (by rw [nI_clamp (by omega), nI_clamp (by omega)]; omega)
    by_cases q2 : j = k
    · rw [q2, pk_us]
    · rw [pk_un q2]; exact h1 j (by omega)
theorem lc_ok (x : Int32) : (∃ k, k ≤ 12 ∧ x = nI k ∧ f_isLineCount x = some 1) ∨ (f_isLineCount x = some 0 ∧ (x < 0 ∨ (¬ x < 0 ∧ 12 < x))) := by
  unfold f_isLineCount ck_if
  by_cases q : x < 0
  · rw [if_pos q]; exact Or.inr ⟨rfl, Or.inl q⟩
  · rw [if_neg q]
    obtain ⟨S, hS, rfl⟩ := nI_of q
    by_cases q2 : 12 < nI S
    · rw [if_pos q2]; exact Or.inr ⟨rfl, Or.inr ⟨q, q2⟩⟩
    · rw [if_neg q2]
      have : ¬ 12 < S := fun h => q2 ((nI_ltI (a := 12) (by omega) hS).mpr h)
      exact Or.inl ⟨S, by omega, rfl, rfl⟩
/-- table t begun anew: what both sides hold -/
def Beg (t : Nat) (flds rcs els kn nb flds' rcs' els' kn' nb' : Nat → Int32) (fld rcn ccn std : Int32) (num : Nat → Int32) : Prop := ∃ m N rows, FdP m ∧ N ≤ 12 ∧ rows ≤ 12 ∧ fld = nI m ∧ rcn = nI rows ∧ ccn = nI N ∧ std = 0 ∧ CNm m N rows (Nb nb' t) num ∧ flds' t = nI m ∧ rcs' t = nI rows ∧ els' t = nI N ∧ kn' t = 0 ∧ (∀ i j, i < rows → j < N → -999 ≤ Nb nb' t i j ∧ Nb nb' t i j ≤ 999) ∧ (∀ t', t' ≠ t → flds' t' = flds t' ∧ rcs' t' = rcs t' ∧ els' t' = els t' ∧ kn' t' = kn t') ∧ ∀ q, (∀ k, k < 144 → q ≠ 144 * t + k) → nb' q = nb q
section Put
variable {flds rcs els kn nb num : Nat → Int32} {fld rcn ccn std : Int32} {t : Nat}
theorem q_begin (ht : t < 4) (f r k : Int32) : ok (f_B_beginV 4 fld rcn ccn std 144 num (nI t) f r k) (fun a => ok (f_R_begin 4 flds 4 rcs 4 els 4 kn 576 nb (nI t) f r k) (fun b => a.1 = b.1 ∧ ((a.2 = (fld, rcn, ccn, std, num) ∧ b.2 = (flds, rcs, els, kn, nb)) ∨ Beg t flds rcs els kn nb b.2.1 b.2.2.1 b.2.2.2.1 b.2.2.2.2.1 b.2.2.2.2.2 a.2.1 a.2.2.1 a.2.2.2.1 a.2.2.2.2.1 a.2.2.2.2.2))) := by
  have hno : ((¬ ∃ p : Nat, FdP p ∧ f = nI p ∧ p ≤ 251 ∧ f_isField f = some 1 ∧ f_R_isField f = some 1) ∨ (r < 0 ∨ (¬ r < 0 ∧ 12 < r)) ∨ (k < 0 ∨ (¬ k < 0 ∧ 12 < k))) → ok (f_R_begin 4 flds 4 rcs 4 els 4 kn 576 nb (nI t) f r k) (fun b => (0 : Int32) = b.1 ∧ ((((fld, rcn, ccn, std, num) : Int32 × Int32 × Int32 × Int32 × (Nat → Int32)) = (fld, rcn, ccn, std, num) ∧ b.2 = (flds, rcs, els, kn, nb)) ∨ Beg t flds rcs els kn nb b.2.1 b.2.2.1 b.2.2.2.1 b.2.2.2.2.1 b.2.2.2.2.2 fld rcn ccn std num)) := by
    intro h
    unfold f_R_begin
    refine ok_b1 (is_t ht) ?_
    rintro r1 rfl
    refine ok_if (fun q => absurd q (by decide)) (fun _ => ?_)
    rcases fld_ok f with ⟨p, p1, p2, p3, p4, p5⟩ | ⟨p1, p2⟩
    · refine ok_b1 (Q1 := fun r => r = 1) ⟨1, p5, rfl⟩ ?_
      rintro r4 rfl
      refine ok_if (fun q => absurd q (by decide)) (fun _ => ok_if (fun _ => ok_some ⟨rfl, Or.inl ⟨rfl, rfl⟩⟩) (fun q1 => ok_if (fun _ => ok_some ⟨rfl, Or.inl ⟨rfl, rfl⟩⟩) (fun q2 => ok_if (fun _ => ok_some ⟨rfl, Or.inl ⟨rfl, rfl⟩⟩) (fun q3 => ok_if (fun q4 => ?_) (fun _ => ok_some ⟨rfl, Or.inl ⟨rfl, rfl⟩⟩)))))
      exfalso
      rcases h with h | h | h
      · exact h ⟨p, p1, p2, p3, p4, p5⟩
      · rcases h with h | ⟨-, h⟩
        · exact q1 h
        · exact q2 h
      · rcases h with h | ⟨-, h⟩
        · exact q3 h
        · have h1 := i_lt.mp h
          have h2 := i_le.mp q4
          omega
    · refine ok_b1 (Q1 := fun r => r = 0) ⟨0, p2, rfl⟩ ?_
      rintro r4 rfl
      exact ok_if (fun _ => ok_some ⟨rfl, Or.inl ⟨rfl, rfl⟩⟩) (fun q => absurd rfl q)
  unfold f_B_beginV
  refine ok_b0 (tav_ok ht) ?_
  rcases fld_ok f with ⟨m, p1, rfl, p3, p4, p5⟩ | ⟨p1, p2⟩
  · refine ok_b1 (Q1 := fun r => r = 1) ⟨1, p4, rfl⟩ ?_
    rintro r2 rfl
    refine ok_if (fun q => absurd q (by decide)) (fun _ => ?_)
    rcases lc_ok r with ⟨rows, s1, rfl, s2⟩ | ⟨s2, s3⟩
    · refine ok_b1 (Q1 := fun r => r = 1) ⟨1, s2, rfl⟩ ?_
      rintro r5 rfl
      refine ok_if (fun q => absurd q (by decide)) (fun _ => ?_)
      rcases lc_ok k with ⟨N, n1, rfl, n2⟩ | ⟨n2, n3⟩
      · refine ok_b1 (Q1 := fun r => r = 1) ⟨1, n2, rfl⟩ ?_
        rintro r8 rfl
        refine ok_if (fun q => absurd q (by decide)) (fun _ => ?_)
        refine ok_b5 (Q1 := fun x => ∃ w : Nat → Int32, (∀ k, k < 144 → w k = 0) ∧ x = (nI m, nI rows, nI N, 0, w)) ?_ ?_
        · unfold f_T_clear
          refine ok_b1 f144_ok ?_
          intro u1 hu1
          exact ok_some ⟨u1, hu1, rfl⟩
        · rintro u11 u12 u13 u14 u15 ⟨w, hw, hx⟩
          have x1 := Prod.mk.inj hx
          have x2 := Prod.mk.inj x1.2
          have x3 := Prod.mk.inj x2.2
          have x4 := Prod.mk.inj x3.2
          rw [x1.1, x2.1, x3.1, x4.1, x4.2]
          refine ok_some ?_
          unfold f_R_begin
          refine ok_b1 (is_t ht) ?_
          rintro r1 rfl
          refine ok_if (fun q => absurd q (by decide)) (fun _ => ?_)
          refine ok_b1 (Q1 := fun r => r = 1) ⟨1, p5, rfl⟩ ?_
          rintro r4 rfl
          refine ok_if (fun q => absurd q (by decide)) (fun _ => ok_if (fun q => absurd q (nI_pos (by omega))) (fun _ => ok_if (fun q => absurd ((nI_ltI (a := 12) (by omega) (by omega)).mp q) (by omega)) (fun _ => ok_if (fun q => absurd q (nI_pos (by omega))) (fun _ => ok_if (fun _ => ?_) (fun q => absurd ((nI_leI (b := 12) (by omega) (by omega)).mpr n1) q)))))
          refine ok_in (vp_in_nI ht (by decide)) (ok_in (vp_in_nI ht (by decide)) (ok_in (vp_in_nI ht (by decide)) (ok_in (vp_in_nI ht (by decide)) ?_)))
          refine lo2_F (fun v w' => ∃ j : Nat, j ≤ 144 ∧ v = nI j ∧ (∀ i, i < j → w' (144 * t + i) = 0) ∧ ∀ q, (∀ i, i < j → q ≠ 144 * t + i) → w' q = nb q) (fun v _ => 144 - v.toNatClampNeg) ?_ ⟨0, by omega, nI_0.symm, fun i hi => absurd hi (by omega), fun _ _ => rfl⟩ (by omega)
          rintro kr v w' ⟨j, hj, rfl, g1, g2⟩ ih
          refine ok_if (fun q => ?_) (fun q => ?_)
          · have e : j = 144 := by
              have := (nI_leI (a := 144) (by omega) (by omega)).mp q
              omega
            subst e
            rw [nI_clamp (by omega)]
            have hz : ∀ i j, i < rows → j < N → Nb w' t i j = 0 := by
              intro i j hi hj
              unfold Nb
              rw [show 144 * t + 12 * i + j = 144 * t + (12 * i + j) by omega, g1 _ (by omega)]; rfl
            refine ok_some ⟨rfl, Or.inr ⟨m, N, rows, p1, n1, s1, rfl, rfl, rfl, rfl, fun i j hi hj => ?_, pk_us, pk_us, pk_us, ?_, fun i j hi hj => ?_, fun t' ht' => ?_, g2⟩⟩
            · show -999 ≤ (w (i * 12 + j)).toInt ∧ (w (i * 12 + j)).toInt ≤ 999 ∧ (m : Int) ∣ Nb w' t i j - (w (i * 12 + j)).toInt
              rw [hw _ (by omega), hz i j hi hj]
              have : (0 : Int32).toInt = 0 := rfl
              rw [this]
              exact ⟨by omega, by omega, Int.dvd_zero _⟩
            · show upd kn t (vp_nar .boolean 0) t = 0
              rw [pk_us]; rfl
            · show -999 ≤ Nb w' t i j ∧ Nb w' t i j ≤ 999
              rw [hz i j hi hj]; omega
            · exact ⟨pk_un ht', pk_un ht', pk_un ht', pk_un ht'⟩
          · have hlt : j < 144 := by
              rcases Nat.lt_or_ge j 144 with q1 | q1
              · exact q1
              · exact absurd ((nI_leI (a := 144) (by omega) (by omega)).mpr q1) q
            rw [show (144 : Int32) * nI t + nI j = nI (144 * t + j) by rw [show (144 : Int32) = nI 144 from rfl, pk_mul, nI_add]]
            refine ok_in (vp_in_nI (by omega) (by decide)) ?_
            refine ok_nmr (nI (j + 1)) (nI_1 ..) ?_
            rw [nI_clamp (n := 144 * t + j) (by omega)]
            refine ih _ _ ⟨j + 1, hlt, rfl, fun i hi => ?_, fun q hq => ?_⟩ (by rw [nI_clamp (by omega), nI_clamp (by omega)]; omega)
            · by_cases q2 : i = j
              · rw [q2, pk_us]
              · rw [pk_un (by omega)]; exact g1 i (by omega)
            · rw [pk_un (hq j (by omega))]; exact g2 q (fun i hi => hq i (by omega))
      · refine ok_b1 (Q1 := fun r => r = 0) ⟨0, n2, rfl⟩ ?_
        rintro r8 rfl
        exact ok_if (fun _ => ok_some (hno (Or.inr (Or.inr n3)))) (fun q => absurd rfl q)
    · refine ok_b1 (Q1 := fun r => r = 0) ⟨0, s2, rfl⟩ ?_
      rintro r5 rfl
      exact ok_if (fun _ => ok_some (hno (Or.inr (Or.inl s3)))) (fun q => absurd rfl q)
  · refine ok_b1 (Q1 := fun r => r = 0) ⟨0, p1, rfl⟩ ?_
    rintro r2 rfl
    refine ok_if (fun _ => ok_some (hno (Or.inl ?_))) (fun q => absurd rfl q)
    rintro ⟨p, -, -, -, h, -⟩
    rw [p1] at h
    cases h
theorem q_put {m N rows : Nat} (hm : FdP m) (hN : N ≤ 12) (hr : rows ≤ 12) (ht : t < 4) (hrc : rcs t = nI rows) (hel : els t = nI N) (hnb : ∀ i j, i < rows → j < N → -999 ≤ Nb nb t i j ∧ Nb nb t i j ≤ 999) (hA : CNm m N rows (Nb nb t) num) (r k v : Int32) : ok (f_B_putV 4 (nI m) (nI rows) (nI N) std 144 num (nI t) r k v) (fun a => ok (f_R_put 4 rcs 4 els 4 kn 576 nb (nI t) r k v) (fun b => a.1 = b.1 ∧ ((a.2 = (num, std) ∧ b.2 = (kn, nb)) ∨ (a.2.2 = 0 ∧ CNm m N rows (Nb b.2.2 t) a.2.1 ∧ b.2.1 t = 0 ∧ (∀ i j, i < rows → j < N → -999 ≤ Nb b.2.2 t i j ∧ Nb b.2.2 t i j ≤ 999) ∧ (∀ t', t' ≠ t → b.2.1 t' = kn t') ∧ ∀ q, (∀ k, k < 144 → q ≠ 144 * t + k) → b.2.2 q = nb q)))) := by
  have e999 : (999 : Int32).toInt = 999 := rfl
  have en999 : (-999 : Int32).toInt = -999 := by decide
  have hno : (r < 0 ∨ nI rows ≤ r ∨ k < 0 ∨ nI N ≤ k ∨ v < (-999) ∨ ¬ v ≤ 999) → ok (f_R_put 4 rcs 4 els 4 kn 576 nb (nI t) r k v) (fun b => (0 : Int32) = b.1 ∧ ((((num, std) : (Nat → Int32) × Int32) = (num, std) ∧ b.2 = (kn, nb)) ∨ (std = 0 ∧ CNm m N rows (Nb b.2.2 t) num ∧ b.2.1 t = 0 ∧ (∀ i j, i < rows → j < N → -999 ≤ Nb b.2.2 t i j ∧ Nb b.2.2 t i j ≤ 999) ∧ (∀ t', t' ≠ t → b.2.1 t' = kn t') ∧ ∀ q, (∀ k, k < 144 → q ≠ 144 * t + k) → b.2.2 q = nb q))) := by
    intro h
    unfold f_R_put
    refine ok_b1 (is_t ht) ?_
    rintro r1 rfl
    refine ok_if (fun q => absurd q (by decide)) (fun _ => ok_if (fun _ => ok_some ⟨rfl, Or.inl ⟨rfl, rfl⟩⟩) (fun q1 => ?_))
    refine ok_in (vp_in_nI ht (by decide)) ?_
    rw [nI_clamp (by omega), hrc, hel]
    refine ok_if (fun _ => ok_some ⟨rfl, Or.inl ⟨rfl, rfl⟩⟩) (fun q2 => ok_if (fun _ => ok_some ⟨rfl, Or.inl ⟨rfl, rfl⟩⟩) (fun q3 => ?_))
    refine ok_in (vp_in_nI ht (by decide)) ?_
    refine ok_if (fun _ => ok_some ⟨rfl, Or.inl ⟨rfl, rfl⟩⟩) (fun q4 => ok_if (fun _ => ok_some ⟨rfl, Or.inl ⟨rfl, rfl⟩⟩) (fun q5 => ok_if (fun q6 => ?_) (fun _ => ok_some ⟨rfl, Or.inl ⟨rfl, rfl⟩⟩)))
    exfalso
    rcases h with h | h | h | h | h | h
    · exact q1 h
    · exact q2 h
    · exact q3 h
    · exact q4 h
    · exact q5 h
    · exact h q6
  unfold f_B_putV
  refine ok_b0 (tav_ok ht) ?_
  by_cases hpl : ¬ r < 0 ∧ ¬ nI rows ≤ r ∧ ¬ k < 0 ∧ ¬ nI N ≤ k
  · obtain ⟨q1, q2, q3, q4⟩ := hpl
    have hhp : f_T_hasPlace (nI rows) (nI N) r k = some 1 := by
      unfold f_T_hasPlace ck_if
      rw [if_neg q1, if_neg q2, if_neg q3, if_neg q4]
    refine ok_b1 (Q1 := fun r => r = 1) ⟨1, hhp, rfl⟩ ?_
    rintro r2 rfl
    refine ok_if (fun q => absurd q (by decide)) (fun _ => ?_)
    refine ok_if (fun q => ok_some (hno (Or.inr (Or.inr (Or.inr (Or.inr (Or.inl q))))))) (fun q5 => ok_if (fun q6 => ?_) (fun q => ok_some (hno (Or.inr (Or.inr (Or.inr (Or.inr (Or.inr q))))))))
    obtain ⟨i, hi, rfl⟩ := nI_of q1
    obtain ⟨j, hj, rfl⟩ := nI_of q3
    have hi2 : i < rows := by
      rcases Nat.lt_or_ge i rows with h | h
      · exact h
      · exact absurd ((nI_leI (by omega) hi).mpr h) q2
    have hj2 : j < N := by
      rcases Nat.lt_or_ge j N with h | h
      · exact h
      · exact absurd ((nI_leI (by omega) hj).mpr h) q4
    have hv1 : -999 ≤ v.toInt := by
      have : ¬ v.toInt < (-999 : Int32).toInt := fun h => q5 (i_lt.mpr h)
      omega
    have hv2 : v.toInt ≤ 999 := by
      have := i_le.mp q6
      omega
    have ixc : nI i * 12 + nI j = nI (i * 12 + j) := by rw [show (12 : Int32) = nI 12 from rfl, pk_mul, nI_add]
    refine ok_b2 (Q1 := fun x => ∃ z : Int32, x = (upd num (i * 12 + j) z, 0) ∧ -999 ≤ z.toInt ∧ z.toInt ≤ 999 ∧ (m : Int) ∣ v.toInt - z.toInt) ?_ ?_
    · unfold f_T_write
      refine ok_if (fun q => ?_) (fun q => ?_)
      · rw [ixc]
        refine ok_in (vp_in_nI (by omega) (by decide)) ?_
        rw [nI_clamp (by omega)]
        exact ok_some ⟨v, rfl, hv1, hv2, by rw [Int.sub_self]; exact Int.dvd_zero _⟩
      · have hp : m ∈ PR := by
          rcases hm with h | h
          · rw [h] at q; exact absurd rfl q
          · exact h
        obtain ⟨p0, p1⟩ := pr_le m hp
        refine ok_b1 (fmi_ok p0 p1 hv1 hv2) ?_
        intro z hz
        rw [ixc]
        refine ok_in (vp_in_nI (by omega) (by decide)) ?_
        rw [nI_clamp (by omega)]
        have h1 := Int.emod_nonneg v.toInt (show (m : Int) ≠ 0 by omega)
        have h2 := Int.emod_lt_of_pos v.toInt (show (0 : Int) < m by omega)
        refine ok_some ⟨z, rfl, by omega, by omega, ?_⟩
        rw [hz]
        have := Int.emod_add_mul_ediv v.toInt m
        exact ⟨v.toInt / m, by omega⟩
    · rintro u7 u8 ⟨z, hx, z1, z2, z3⟩
      have x1 := Prod.mk.inj hx
      rw [x1.1, x1.2]
      refine ok_some ?_
      unfold f_R_put
      refine ok_b1 (is_t ht) ?_
      rintro r1 rfl
      refine ok_if (fun q => absurd q (by decide)) (fun _ => ok_if (fun q => absurd q q1) (fun _ => ?_))
      refine ok_in (vp_in_nI ht (by decide)) ?_
      rw [nI_clamp (by omega), hrc, hel]
      refine ok_if (fun q => absurd q q2) (fun _ => ok_if (fun q => absurd q q3) (fun _ => ?_))
      refine ok_in (vp_in_nI ht (by decide)) ?_
      refine ok_if (fun q => absurd q q4) (fun _ => ok_if (fun q => absurd q q5) (fun _ => ok_if (fun _ => ?_) (fun q => absurd q6 q)))
      rw [ixT]
      refine ok_in (vp_in_nI (by omega) (by decide)) (ok_in (vp_in_nI ht (by decide)) ?_)
      rw [nI_clamp (by omega)]
      have hN1 : ∀ a b, a < rows → b < N → Nb (upd nb (144 * t + 12 * i + j) v) t a b = if a = i ∧ b = j then v.toInt else Nb nb t a b := by
        intro a b ha hb
        unfold Nb
        by_cases q7 : a = i ∧ b = j
        · rw [if_pos q7, q7.1, q7.2, pk_us]
        · rw [if_neg q7, pk_un (by omega)]
      refine ok_some ⟨rfl, Or.inr ⟨rfl, fun a b ha hb => ?_, ?_, fun a b ha hb => ?_, fun t' ht' => pk_un ht', fun q hq => ?_⟩⟩
      · show -999 ≤ (upd num (i * 12 + j) z (a * 12 + b)).toInt ∧ (upd num (i * 12 + j) z (a * 12 + b)).toInt ≤ 999 ∧ (m : Int) ∣ Nb (upd nb (144 * t + 12 * i + j) v) t a b - (upd num (i * 12 + j) z (a * 12 + b)).toInt
        rw [hN1 a b ha hb]
        by_cases q7 : a = i ∧ b = j
        · rw [if_pos q7, q7.1, q7.2, pk_us]; exact ⟨z1, z2, z3⟩
        · rw [if_neg q7, pk_un (by omega)]; exact hA a b ha hb
      · show upd kn t (vp_nar .boolean 0) t = 0
        rw [pk_us]; rfl
      · show -999 ≤ Nb (upd nb (144 * t + 12 * i + j) v) t a b ∧ Nb (upd nb (144 * t + 12 * i + j) v) t a b ≤ 999
        rw [hN1 a b ha hb]
        by_cases q7 : a = i ∧ b = j
        · rw [if_pos q7]; exact ⟨hv1, hv2⟩
        · rw [if_neg q7]; exact hnb a b ha hb
      · have := hq (12 * i + j) (by omega)
        show upd nb (144 * t + 12 * i + j) v q = nb q
        rw [pk_un (by omega)]
  · have hhp : f_T_hasPlace (nI rows) (nI N) r k = some 0 := by
      unfold f_T_hasPlace ck_if
      by_cases q1 : r < 0
      · rw [if_pos q1]
      · rw [if_neg q1]
        by_cases q2 : nI rows ≤ r
        · rw [if_pos q2]
        · rw [if_neg q2]
          by_cases q3 : k < 0
          · rw [if_pos q3]
          · rw [if_neg q3]
            by_cases q4 : nI N ≤ k
            · rw [if_pos q4]
            · exact absurd ⟨q1, q2, q3, q4⟩ hpl
    refine ok_b1 (Q1 := fun r => r = 0) ⟨0, hhp, rfl⟩ ?_
    rintro r2 rfl
    refine ok_if (fun _ => ok_some (hno ?_)) (fun q => absurd rfl q)
    by_cases q1 : r < 0
    · exact Or.inl q1
    · by_cases q2 : nI rows ≤ r
      · exact Or.inr (Or.inl q2)
      · by_cases q3 : k < 0
        · exact Or.inr (Or.inr (Or.inl q3))
        · by_cases q4 : nI N ≤ k
          · exact Or.inr (Or.inr (Or.inr (Or.inl q4)))
          · exact absurd ⟨q1, q2, q3, q4⟩ hpl
end Put
/-- no such table: the class -/
theorem tan_ok {x : Int32} (h : ¬ ∃ t, t < 4 ∧ x = nI t) : f_B_tableAtN x = some () ∧ f_R_isTable x = some 0 := by
  unfold f_B_tableAtN f_R_isTable ck_if
  by_cases q : x < 0
  · rw [if_pos q, if_pos q]; exact ⟨rfl, rfl⟩
  · rw [if_neg q, if_neg q]
    obtain ⟨S, hS, rfl⟩ := nI_of q
    have h4 : ¬ S < 4 := fun h5 => h ⟨S, h5, rfl⟩
    have q2 : ¬ nI S < 4 := fun h5 => h4 ((nI_ltI (b := 4) hS (by omega)).mp h5)
    have q3 : 4 ≤ nI S := (nI_leI (a := 4) (by omega) hS).mpr (by omega)
    rw [if_neg q2, if_pos q3]; exact ⟨rfl, rfl⟩
theorem tix (x : Int32) : (∃ t, t < 4 ∧ x = nI t) ∨ ¬ ∃ t, t < 4 ∧ x = nI t := Classical.em _
