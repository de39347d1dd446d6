theorem mc_ok {R : Type} {Q : R → Prop} {kk : Int32 → (Nat → Int32) → Option R} {w0 : Nat → Int32} {N S : Nat} (hN : N ≤ 12) (hS : S < 2 ^ N) (hkk : ∀ (n : Nat) (w : Nat → Int32) (t : Nat → Nat), n = cnt N S.testBit → n ≤ N → (∀ i, i < n → w i = nI (t i) ∧ t i < N) → (∀ i j, i < j → j < n → t i < t j) → msk N (inP n t) = S → ok (kk (nI n) w) Q) :
    ok (lo3 (fun k_4 (v3_53 : Int32) (v2_54 : Int32) (w_55 : Nat → Int32) => ck_if (nI N ≤ v3_53) (kk v2_54 w_55) (ck_jn (fun (v2_57 : Int32) (w_58 : Nat → Int32) => ck_nm (v3_53 + 1) <| fun x_59 => k_4 x_59 v2_57 w_58) <| fun k_31 => ck_if (((nI S >>> (v3_53 &&& 31)) &&& 1) = 1) (ck_in v2_54 12 <| ck_nm (v2_54 + 1) <| fun x_62 => k_31 x_62 (upd w_55 v2_54.toNatClampNeg v3_53)) (k_31 v2_54 w_55))) ck_F 0 0 w0) Q := by
  have hS2 : S < 2 ^ 31 := Nat.lt_of_lt_of_le hS (Nat.pow_le_pow_right (by decide) (by omega))
  refine lo3_F (fun v x w => ∃ (c n : Nat) (t : Nat → Nat), c ≤ N ∧ v = nI c ∧ x = nI n ∧ n = cnt c S.testBit ∧ n ≤ c ∧ (∀ i, i < n → w i = nI (t i) ∧ t i < c ∧ S.testBit (t i) = true) ∧ (∀ i j, i < j → j < n → t i < t j) ∧ ∀ e, e < c → S.testBit e = true → ∃ i, i < n ∧ t i = e) (fun v _ _ => N - v.toNatClampNeg) ?_ ⟨0, 0, fun _ => 0, Nat.zero_le _, nI_0.symm, nI_0.symm, rfl, Nat.le_refl _, fun i hi => absurd hi (by omega), fun i j _ hj => absurd hj (by omega), fun e he => absurd he (by omega)⟩ (by omega)
  rintro kr v x w ⟨c, n, t, hc, rfl, rfl, h1, h2, h3, h4, h5⟩ ih
  refine ok_if (fun q => ?_) (fun q => ?_)
  · have e : c = N := by
      have := (nI_leI (by omega) (by omega)).mp q
      omega
    subst e
    refine hkk n w t h1 h2 (fun i hi => ⟨(h3 i hi).1, (h3 i hi).2.1⟩) h4 ?_
    refine bit_ext msk_lt hS (fun e he => ?_)
    rw [msk_bit]
    simp only [he, decide_true, Bool.true_and]
    cases q2 : S.testBit e with
    | true => exact inP_iff.mpr (h5 e he q2)
    | false =>
      cases q3 : inP n t e with
      | false => rfl
      | true =>
        obtain ⟨i, hi, rfl⟩ := inP_iff.mp q3
        rw [(h3 i hi).2.2] at q2; cases q2
  · have hlt : c < N := by
      rcases Nat.lt_or_ge c N with q1 | q1
      · exact q1
      · exact absurd ((nI_leI (by omega) (by omega)).mpr q1) q
    refine ok_jn (fun k31 => ∀ (n' : Nat) (w' : Nat → Int32) (t' : Nat → Nat), n' = cnt (c + 1) S.testBit → n' ≤ c + 1 → (∀ i, i < n' → w' i = nI (t' i) ∧ t' i < c + 1 ∧ S.testBit (t' i) = true) → (∀ i j, i < j → j < n' → t' i < t' j) → (∀ e, e < c + 1 → S.testBit e = true → ∃ i, i < n' ∧ t' i = e) → ok (k31 (nI n') w') Q) ?_ ?_
    · intro n' w' t' a1 a2 a3 a4 a5
      refine ok_nmr (nI (c + 1)) (nI_1 ..) ?_
      exact ih _ _ _ ⟨c + 1, n', t', hlt, rfl, rfl, a1, a2, a3, a4, a5⟩ (by rw [nI_clamp (by omega), nI_clamp (by omega)]; omega)
    · intro k31 h31
      have hbit := nI_bit hS2 (show c < 31 by omega)
      refine ok_if (fun q2 => ?_) (fun q2 => ?_)
      · have hb := hbit.mp q2
        refine ok_in (vp_in_nI (by omega) (by decide)) ?_
        refine ok_nmr (nI (n + 1)) (nI_1 ..) ?_
        rw [nI_clamp (by omega)]
        refine h31 (n + 1) _ (fun i => if i = n then c else t i) ?_ (by omega) ?_ ?_ ?_
        · simp only [cnt]; rw [if_pos hb, h1]
        · intro i hi
          by_cases q3 : i = n
          · subst q3; simp only [if_pos]; rw [pk_us]; exact ⟨rfl, by omega, hb⟩
          · simp only [if_neg q3]; rw [pk_un q3]
            obtain ⟨b1, b2, b3⟩ := h3 i (by omega)
            exact ⟨b1, by omega, b3⟩
        · intro i j hij hj
          by_cases q3 : j = n
          · subst q3
            simp only [if_pos, if_neg (show i ≠ j by omega)]
            exact (h3 i (by omega)).2.1
          · simp only [if_neg q3, if_neg (show i ≠ n by omega)]
            exact h4 i j hij (by omega)
        · intro e he hSe
          by_cases q3 : e = c
          · exact ⟨n, by omega, by simp only [if_pos]; exact q3.symm⟩
          · obtain ⟨i, i1, i2⟩ := h5 e (by omega) hSe
            exact ⟨i, by omega, by simp only [if_neg (show i ≠ n by omega)]; exact i2⟩
      · have hb : ¬ S.testBit c = true := fun e => q2 (hbit.mpr e)
        refine h31 n w t ?_ (by omega) (fun i hi => ?_) h4 (fun e he hSe => ?_)
        · simp only [cnt]; rw [if_neg hb, h1]; rfl
        · obtain ⟨b1, b2, b3⟩ := h3 i hi
          exact ⟨b1, by omega, b3⟩
        · by_cases q3 : e = c
          · rw [q3] at hSe; exact absurd hSe hb
          · exact h5 e (by omega) hSe
theorem mr_ok {R' : Type} {Q : R' → Prop} {kk : (Nat → Int32) → Option R'} {w0 : Nat → Int32} {R : Nat} (hR : R ≤ 12) (hkk : ∀ w : Nat → Int32, (∀ i, i < R → w i = nI i) → ok (kk w) Q) :
    ok (lo2 (fun k_39 (v3_48 : Int32) (w_49 : Nat → Int32) => ck_if (nI R ≤ v3_48) (kk w_49) (ck_in v3_48 12 <| ck_nm (v3_48 + 1) <| fun x_52 => k_39 x_52 (upd w_49 v3_48.toNatClampNeg v3_48))) ck_F 0 w0) Q := by
  refine lo2_F (fun v w => ∃ c : Nat, c ≤ R ∧ v = nI c ∧ ∀ i, i < c → w i = nI i) (fun v _ => R - v.toNatClampNeg) ?_ ⟨0, Nat.zero_le _, nI_0.symm, fun i hi => absurd hi (by omega)⟩ (by omega)
  rintro kr v w ⟨c, hc, rfl, h1⟩ ih
  refine ok_if (fun q => ?_) (fun q => ?_)
  · have e : c = R := by
      have := (nI_leI (by omega) (by omega)).mp q
      omega
    subst e
    exact hkk w h1
  · have hlt : c < R := by
      rcases Nat.lt_or_ge c R with q1 | q1
      · exact q1
      · exact absurd ((nI_leI (by omega) (by omega)).mpr q1) q
    refine ok_in (vp_in_nI (by omega) (by decide)) ?_
    refine ok_nmr (nI (c + 1)) (nI_1 ..) ?_
    rw [nI_clamp (by omega)]
    refine ih _ _ ⟨c + 1, hlt, rfl, fun i hi => ?_⟩ (by rw [nI_clamp (by omega), nI_clamp (by omega)]; omega)
    by_cases q2 : i = c
    · rw [q2, pk_us]
    · rw [pk_un q2]; exact h1 i (by omega)
theorem ps_par (k : Nat) : ps k = if k % 2 = 0 then 1 else -1 := by
  induction k with
  | zero => rfl
  | succ k ih =>
    simp only [ps]
    rw [ih]
    by_cases q : k % 2 = 0
    · rw [if_pos q, if_neg (by omega)]
    · rw [if_neg q, if_pos (by omega)]; rfl
theorem dl_dn {O : Nat → Nat → Int} {rr : Nat → Nat} {a : Nat} : dl (fun x => O (rr x)) a = fun x => O (dn rr a x) := by
  funext x
  unfold dl dn
  by_cases q : x < a
  · rw [if_pos q, if_pos q]
  · rw [if_neg q, if_neg q]
theorem mm_ok {R' : Type} {Q : R' → Prop} {kk : Int32 → Int32 → (Nat → Int32) → (Nat → Int32) → Option R'} {pvs wr0 wc0 : Nat → Int32} {pv t0 : Nat → Nat} {O : Nat → Nat → Int} {N R S : Nat} (hN : N ≤ 12) (hR : R ≤ 12) (hS : S < 2 ^ N) (hpv : ∀ i, i < R → pvs i = nI (pv i) ∧ pv i < N) (hpi : ∀ i j, i < j → j < R → pv i < pv j) (hO0 : ∀ i j, i < R → j < R → i ≠ j → O i (pv j) = 0) (hO1 : ∀ i, i < R → 0 < O i (pv i)) (hwr : ∀ i, i < R → wr0 i = nI i) (hwc : ∀ i, i < R → wc0 i = nI (t0 i) ∧ t0 i < N) (ht0 : ∀ i j, i < j → j < R → t0 i < t0 j) (hm0 : msk N (inP R t0) = S)
    (hkk : ∀ (g : Int32) (n : Nat) (wr wc : Nat → Int32) (rr t : Nat → Nat) (d K : Int), (d = 1 ∧ g = 1 ∨ d = -1 ∧ g = -1) → 0 < K → ((∀ i, i < R → O i (pv i) = 1) → K = 1) → n ≤ 6 → (∀ i, i < n → wr i = nI (rr i) ∧ rr i < R) → (∀ i, i < n → wc i = nI (t i) ∧ t i < N) → (∀ i j, i < j → j < n → t i < t j) → tri R * wl N (ol O R) S = d * K * (tri n * wl N (ol (fun a => O (rr a)) n) (msk N (inP n t))) → ok (kk g (nI n) wr wc) Q) :
    ok (lo5 (fun k_65 (v4_23 : Int32) (v3_24 : Int32) (v2_25 : Int32) (w_26 : Nat → Int32) (w_27 : Nat → Int32) => ck_if (nI R ≤ v4_23) (kk v3_24 v2_25 w_26 w_27) (ck_in v4_23 13 <| ck_jn (fun (v2_30 : Int32) (v3_31 : Int32) (w_32 : Nat → Int32) (w_33 : Nat → Int32) => ck_nm (v4_23 + 1) <| fun x_34 => k_65 x_34 v3_31 v2_30 w_32 w_33) <| fun k_158 => ck_if (((nI S >>> ((pvs v4_23.toNatClampNeg) &&& 31)) &&& 1) = 1) (ck_b1 (f_R_placeOf 12 w_26 v2_25 v4_23) <| fun r_36 => ck_in v4_23 13 <| ck_b1 (f_R_placeOf 12 w_27 v2_25 (pvs v4_23.toNatClampNeg)) <| fun r_39 => ck_jn (fun (s0_41 : Int32) => ck_b1 (f_R_remove 12 w_26 v2_25 r_36) <| fun u_42 => ck_b1 (f_R_remove 12 w_27 v2_25 r_39) <| fun u_44 => ck_nm (v2_25 + (-1)) <| fun x_46 => k_158 x_46 s0_41 u_42 u_44) <| fun k_134 => ck_if (((r_36 + r_39) - (r_36 + r_39) / 2 * 2) = 0) (k_134 v3_24) (k_134 (-v3_24))) (k_158 v2_25 v3_24 w_26 w_27))) ck_F 0 1 (nI R) wr0 wc0) Q := by
  have hS2 : S < 2 ^ 31 := Nat.lt_of_lt_of_le hS (Nat.pow_le_pow_right (by decide) (by omega))
  have hpj := inc_inj hpi
  refine lo5_F (fun v g x wr wc => ∃ (i n : Nat) (rr t : Nat → Nat) (d K : Int), i ≤ R ∧ v = nI i ∧ x = nI n ∧ (d = 1 ∧ g = 1 ∨ d = -1 ∧ g = -1) ∧ 0 < K ∧ ((∀ i, i < R → O i (pv i) = 1) → K = 1) ∧ n ≤ R ∧ (∀ a, a < n → wr a = nI (rr a) ∧ rr a < R) ∧ (∀ a b, a < b → b < n → rr a < rr b) ∧ (∀ a, a < n → wc a = nI (t a) ∧ t a < N) ∧ (∀ a b, a < b → b < n → t a < t b) ∧ (∀ a, i ≤ a → a < R → ∃ x, x < n ∧ rr x = a) ∧ (∀ e, inP n t e = true ↔ (e < N ∧ S.testBit e = true ∧ inP i pv e = false)) ∧ tri R * wl N (ol O R) S = d * K * (tri n * wl N (ol (fun a => O (rr a)) n) (msk N (inP n t)))) (fun v _ _ _ _ => R - v.toNatClampNeg) ?_ ⟨0, R, fun a => a, t0, 1, 1, Nat.zero_le _, nI_0.symm, rfl, Or.inl ⟨rfl, rfl⟩, by decide, fun _ => rfl, Nat.le_refl _, fun a ha => ⟨hwr a ha, ha⟩, fun a b hab _ => hab, hwc, ht0, fun a _ ha => ⟨a, ha, rfl⟩, fun e => ?_, by rw [hm0]; show _ = 1 * 1 * (tri R * wl N (ol (fun a => O a) R) S); rw [Int.one_mul, Int.one_mul]⟩ (by omega)
  · rintro kr v g x wr wc ⟨i, n, rr, t, d, K, hi, rfl, rfl, hd, hK, hK1, hn, h1, h2, h3, h4, h5, h6, h7⟩ ih
    refine ok_if (fun q => ?_) (fun q => ?_)
    · have e : i = R := by
        have := (nI_leI (by omega) (by omega)).mp q
        omega
      subst e
      have hn6 : n ≤ 6 := by
        have c1 := inP_cnt (fun a ha => (h3 a ha).2) (inc_inj h4)
        have c2 := inP_cnt (n := N) (fun a ha => (hpv a ha).2) hpj
        have c3 : cnt N (inP n t) ≤ cnt N (fun e => true && !inP i pv e) := cnt_le (fun e he hq => by
          have := (h6 e).mp hq
          simp [this.2.2])
        have c4 := cnt_split N (fun _ => true) (inP i pv)
        have c5 : cnt N (fun e => true && inP i pv e) = cnt N (inP i pv) := cnt_congr (fun e _ => by simp)
        have c6 : ∀ M, cnt M (fun _ => true) = M := by
          intro M
          induction M with
          | zero => rfl
          | succ M ih => simp only [cnt]; rw [ih]; simp
        rw [c6] at c4
        omega
      exact hkk g n wr wc rr t d K hd hK hK1 hn6 h1 h3 h4 h7
    · have hlt : i < R := by
        rcases Nat.lt_or_ge i R with q1 | q1
        · exact q1
        · exact absurd ((nI_leI (by omega) (by omega)).mpr q1) q
      obtain ⟨p1, p2⟩ := hpv i hlt
      refine ok_in (vp_in_nI (by omega) (by decide)) ?_
      refine ok_jn (fun k158 => ∀ (g' : Int32) (n' : Nat) (wr' wc' : Nat → Int32) (rr' t' : Nat → Nat) (d' K' : Int), (d' = 1 ∧ g' = 1 ∨ d' = -1 ∧ g' = -1) → 0 < K' → ((∀ i, i < R → O i (pv i) = 1) → K' = 1) → n' ≤ R → (∀ a, a < n' → wr' a = nI (rr' a) ∧ rr' a < R) → (∀ a b, a < b → b < n' → rr' a < rr' b) → (∀ a, a < n' → wc' a = nI (t' a) ∧ t' a < N) → (∀ a b, a < b → b < n' → t' a < t' b) → (∀ a, i + 1 ≤ a → a < R → ∃ x, x < n' ∧ rr' x = a) → (∀ e, inP n' t' e = true ↔ (e < N ∧ S.testBit e = true ∧ inP (i + 1) pv e = false)) → tri R * wl N (ol O R) S = d' * K' * (tri n' * wl N (ol (fun a => O (rr' a)) n') (msk N (inP n' t'))) → ok (k158 (nI n') g' wr' wc') Q) ?_ ?_
      · intro g' n' wr' wc' rr' t' d' K' b1 b2 b3 b4 b5 b6 b7 b8 b9 b10 b11
        refine ok_nmr (nI (i + 1)) (nI_1 ..) ?_
        exact ih _ _ _ _ _ ⟨i + 1, n', rr', t', d', K', hlt, rfl, rfl, b1, b2, b3, b4, b5, b6, b7, b8, b9, b10, b11⟩ (by rw [nI_clamp (by omega), nI_clamp (by omega)]; omega)
      · intro k158 h158
        rw [nI_clamp (by omega), p1]
        have hbit := nI_bit hS2 (show pv i < 31 by omega)
        have hstep : ∀ e, inP (i + 1) pv e = true ↔ (inP i pv e = true ∨ e = pv i) := by
          intro e
          rw [inP_iff, inP_iff]
          constructor
          · rintro ⟨j, hj, rfl⟩
            by_cases q2 : j = i
            · exact Or.inr (by rw [q2])
            · exact Or.inl ⟨j, by omega, rfl⟩
          · rintro (⟨j, hj, rfl⟩ | rfl)
            · exact ⟨j, by omega, rfl⟩
            · exact ⟨i, by omega, rfl⟩
        have hnew : inP i pv (pv i) = false := by
          cases q2 : inP i pv (pv i) with
          | false => rfl
          | true =>
            obtain ⟨j, j1, j2⟩ := inP_iff.mp q2
            have := hpj j i (by omega) hlt j2
            omega
        refine ok_if (fun q2 => ?_) (fun q2 => ?_)
        · have hb := hbit.mp q2
          obtain ⟨a, a1, a2⟩ := h5 i (Nat.le_refl i) hlt
          obtain ⟨b, b1, b2⟩ := inP_iff.mp ((h6 (pv i)).mpr ⟨p2, hb, hnew⟩)
          obtain ⟨n', rfl⟩ : ∃ n', n = n' + 1 := ⟨n - 1, by omega⟩
          refine ok_b1 (po_ok (t := rr) (b := a) (v := i) (by omega) (by omega) a1 a2 (fun x hx => ⟨(h1 x hx).1, by have := (h1 x hx).2; omega⟩) h2) ?_
          rintro r36 rfl
          refine ok_in (vp_in_nI (by omega) (by decide)) ?_
          refine ok_b1 (po_ok (t := t) (b := b) (v := pv i) (by omega) (by omega) b1 b2 (fun x hx => ⟨(h3 x hx).1, by have := (h3 x hx).2; omega⟩) h4) ?_
          rintro r39 rfl
          refine ok_jn (fun k134 => ∀ g' : Int32, (d * ps (a + b) = 1 ∧ g' = 1 ∨ d * ps (a + b) = -1 ∧ g' = -1) → ok (k134 g') Q) ?_ ?_
          · intro g' hg'
            refine ok_b1 (re_ok (t := rr) (by omega) a1 (fun x hx => (h1 x hx).1)) ?_
            intro u42 hu1
            refine ok_b1 (re_ok (t := t) (by omega) b1 (fun x hx => (h3 x hx).1)) ?_
            intro u44 hu2
            refine ok_nmr (nI n') (pk_m1 n') ?_
            have hOa : 0 < O (rr a) (t b) := by rw [a2, b2]; exact hO1 i hlt
            refine h158 g' n' u42 u44 (dn rr a) (dn t b) (d * ps (a + b)) (K * O (rr a) (t b)) hg' (Int.mul_pos hK hOa) (fun hh => by rw [hK1 hh, a2, b2, hh i hlt]; rfl) (by omega) (fun x hx => ⟨hu1 x hx, ?_⟩) (dn_inc h2) (fun x hx => ⟨hu2 x hx, ?_⟩) (dn_inc h4) ?_ ?_ ?_
            · unfold dn
              split
              · exact (h1 x (by omega)).2
              · exact (h1 (x + 1) (by omega)).2
            · unfold dn
              split
              · exact (h3 x (by omega)).2
              · exact (h3 (x + 1) (by omega)).2
            · intro y hy1 hy2
              obtain ⟨z, z1, z2⟩ := h5 y (by omega) hy2
              have : inP n' (dn rr a) y = true := (dn_in a1 h2 y).mpr ⟨inP_iff.mpr ⟨z, z1, z2⟩, by omega⟩
              exact inP_iff.mp this
            · intro e
              rw [dn_in b1 h4 e, h6 e, b2]
              constructor
              · rintro ⟨⟨e1, e2, e3⟩, e4⟩
                refine ⟨e1, e2, ?_⟩
                cases q5 : inP (i + 1) pv e with
                | false => rfl
                | true =>
                  rcases (hstep e).mp q5 with q6 | q6
                  · rw [e3] at q6; cases q6
                  · exact absurd q6 e4
              · rintro ⟨e1, e2, e3⟩
                refine ⟨⟨e1, e2, ?_⟩, ?_⟩
                · cases q5 : inP i pv e with
                  | false => rfl
                  | true => rw [(hstep e).mpr (Or.inl q5)] at e3; cases e3
                · intro q5
                  rw [(hstep e).mpr (Or.inr q5)] at e3; cases e3
            · have hms := mn_step (O := fun x => O (rr x)) a1 b1 (fun x hx => (h3 x hx).2) h4 (fun x hx hxa => by
                rw [b2]
                refine hO0 (rr x) i (h1 x hx).2 hlt (fun e => hxa ?_)
                exact inc_inj h2 x a hx a1 (by omega))
              rw [h7, hms, dl_dn]
              generalize tri n' * wl N (ol (fun x => O (dn rr a x)) n') (msk N (inP n' (dn t b))) = X
              grind
          · intro k134 h134
            rw [nI_add, show (2 : Int32) = nI 2 from rfl, pk_rem (by omega) (by decide) (by decide)]
            have hpar := ps_par (a + b)
            refine ok_if (fun q5 => ?_) (fun q5 => ?_)
            · have := (nI_eq0 (by omega)).mp q5
              rw [if_pos this] at hpar
              exact h134 g (by rw [hpar, Int.mul_one]; exact hd)
            · have : ¬ (a + b) % 2 = 0 := fun e => q5 ((nI_eq0 (by omega)).mpr e)
              rw [if_neg this] at hpar
              refine h134 (-g) ?_
              rw [hpar]
              rcases hd with ⟨rfl, rfl⟩ | ⟨rfl, rfl⟩
              · exact Or.inr ⟨rfl, rfl⟩
              · exact Or.inl ⟨rfl, rfl⟩
        · have hb : ¬ S.testBit (pv i) = true := fun e => q2 (hbit.mpr e)
          refine h158 g n wr wc rr t d K hd hK hK1 hn h1 h2 h3 h4 (fun a ha => h5 a (by omega)) (fun e => ?_) h7
          rw [h6 e]
          constructor
          · rintro ⟨e1, e2, e3⟩
            refine ⟨e1, e2, ?_⟩
            cases q5 : inP (i + 1) pv e with
            | false => rfl
            | true =>
              rcases (hstep e).mp q5 with q6 | q6
              · rw [e3] at q6; cases q6
              · rw [q6] at e2; exact absurd e2 hb
          · rintro ⟨e1, e2, e3⟩
            refine ⟨e1, e2, ?_⟩
            cases q5 : inP i pv e with
            | false => rfl
            | true => rw [(hstep e).mpr (Or.inl q5)] at e3; cases e3
  · have hb : (msk N (inP R t0)).testBit e = S.testBit e := by rw [hm0]
    rw [msk_bit] at hb
    have h0 : inP 0 pv e = false := by simp [inP]
    constructor
    · intro q
      obtain ⟨j, hj, rfl⟩ := inP_iff.mp q
      have := (hwc j hj).2
      rw [q] at hb
      simp [this] at hb
      exact ⟨this, hb, h0⟩
    · rintro ⟨e1, e2, e3⟩
      rw [e2] at hb
      simpa [e1] using hb
