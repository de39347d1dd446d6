theorem det_okQ {Q : (Int32 × (Nat → Int32) × (Nat → Int32) × (Nat → Nat → Int32)) → Prop} {fr fc pn pm : Nat → Int32} {pd : Nat → Nat → Int32} {V : Nat → Int} {rr t : Nat → Nat} {N n : Nat} (h : PO pn pm pd V) (hn : n ≤ 6) (hN : N ≤ 12) (hfr : ∀ i, i < n → fr i = nI (rr i) ∧ rr i < 12) (hfc : ∀ j, j < n → fc j = nI (t j) ∧ t j < N) (hti : ∀ i j, i < j → j < n → t i < t j) (hs : ∀ i, i < n → ∀ e, e < N → sz (V (12 * rr i + e)) 14) (hVs : ∀ q, 156 ≤ q → q < 192 → sz (V q) 150) (hQ : ∀ r : (Int32 × (Nat → Int32) × (Nat → Int32) × (Nat → Nat → Int32)), (r.1 = sI (tri n * wl N (ol (fun i e => V (12 * rr i + e)) n) (msk N (inP n t))) ∧ ∃ V', PO r.2.1 r.2.2.1 r.2.2.2 V' ∧ (∀ q, q < 156 → V' q = V q) ∧ ∀ q, 156 ≤ q → q < 192 → sz (V q) 150 → sz (V' q) 150) → Q r) : ok (f_R_determinant fr fc pn pm pd (nI n)) Q := by
  have htn : ∀ i, i < n → t i < N := fun i hi => (hfc i hi).2
  have hti2 : ∀ i j, i < n → j < n → t i = t j → i = j := by
    intro i j hi hj e
    rcases Nat.lt_trichotomy i j with q | q | q
    · have := hti i j q hj; omega
    · exact q
    · have := hti j i q hi; omega
  have hOb : ∀ k, k < n → ∀ e, e < N → (V (12 * rr k + e)).natAbs ≤ 65536 ^ 14 := by
    intro k hk e he
    have := hs k hk e he
    have h1 := this.1
    have h2 := this.2
    omega
  unfold f_R_determinant
  refine ok_jn (fun k56 => ∀ (qn qm : Nat → Int32) (qd : Nat → Nat → Int32) (W : Nat → Int), PO qn qm qd W → Dm N n 0 t (fun i e => V (12 * rr i + e)) V W 1 → ok (k56 qn qm qd) Q) ?_ ?_
  · intro qn qm qd W hW hD
    refine ok_jn (fun k401 => ∀ (g : Int32) (qn qm : Nat → Int32) (qd : Nat → Nat → Int32) (W : Nat → Int), PO qn qm qd W → Dm N n n t (fun i e => V (12 * rr i + e)) V W g → ok (k401 g qn qm qd) Q) ?_ ?_
    · intro g qn qm qd W hW hD
      refine ok_if (fun q => ?_) (fun q => ?_)
      · have n0 := (nI_eq0 (by omega)).mp q
        subst n0
        refine ok_some (hQ _ ⟨?_, W, hW, ?_, ?_⟩)
        · have e : msk N (inP 0 t) = 0 := by
            apply Nat.eq_of_testBit_eq
            intro e
            rw [msk_bit, Nat.zero_testBit]
            simp [inP]
          rw [e]
          rfl
        · obtain ⟨E, O, D, d, h1, h2, h3, h4, h5, h6, h7, h8, h9⟩ := hD; exact h8
        · obtain ⟨E, O, D, d, h1, h2, h3, h4, h5, h6, h7, h8, h9⟩ := hD; exact h9
      · have n1 : 1 ≤ n := by
          rcases Nat.eq_zero_or_pos n with q1 | q1
          · exact absurd ((nI_eq0 (by omega)).mpr q1) q
          · exact q1
        rw [ix6p n1]
        refine ok_in (vp_in_nI (by omega) (by decide)) (ok_nmr (156 + (6 * (n - 1) + (n - 1))) (by rw [nI_clamp (by omega)]) ?_)
        have hsz : sz (W (156 + (6 * (n - 1) + (n - 1)))) 160 := by
          obtain ⟨E, O, D, d, h1, h2, h3, h4, h5, h6, h7, h8, h9⟩ := hD
          rw [h5 n1]
          exact sz_mono (Bz_Ds h1 (Nat.le_refl n) hn h7) (by omega)
        refine ok_b1 (xsg (hW _ (by omega)) hsz) ?_
        rintro r rfl
        refine ok_some (hQ _ ⟨?_, W, hW, ?_, ?_⟩)
        · exact Dm_end hD n1
        · obtain ⟨E, O, D, d, h1, h2, h3, h4, h5, h6, h7, h8, h9⟩ := hD; exact h8
        · obtain ⟨E, O, D, d, h1, h2, h3, h4, h5, h6, h7, h8, h9⟩ := hD; exact h9
    · intro k401 h401
      refine lo5_F (fun v g qn qm qd => ∃ (c : Nat) (W : Nat → Int), c ≤ n ∧ v = nI c ∧ PO qn qm qd W ∧ Dm N n c t (fun i e => V (12 * rr i + e)) V W g) (fun v _ _ _ _ => n - v.toNatClampNeg) ?_ ⟨0, W, Nat.zero_le n, nI_0.symm, hW, hD⟩ (by omega)
      clear hW hD W qn qm qd
      rintro kr v g qn qm qd ⟨c, W, hc, rfl, hP, hD⟩ ih
      refine ok_if (fun q => ?_) (fun q => ?_)
      · have e : c = n := by
          have := (nI_leI (by omega) (by omega)).mp q
          omega
        subst e
        exact h401 g qn qm qd W hP hD
      · have hlt : c < n := by
          rcases Nat.lt_or_ge c n with q1 | q1
          · exact q1
          · exact absurd ((nI_leI (by omega) (by omega)).mpr q1) q
        have hsW : ∀ i j, c ≤ i → i < n → c ≤ j → j < n → sz (W (156 + (6 * i + j))) 150 := fun i j h1 h2 h3 h4 => sz_mono (Dm_sz hD hn htn h1 h2 h3 h4) (by omega)
        refine ok_jn (fun k98 => ∀ i : Nat, c ≤ i → i ≤ n → (∀ k, c ≤ k → k < i → W (156 + (6 * k + c)) = 0) → (i < n → W (156 + (6 * i + c)) ≠ 0) → ok (k98 (nI i)) Q) ?_ ?_
        · intro i hci hin hz hnz
          refine ok_if (fun q2 => ?_) (fun q2 => ?_)
          · have e : i = n := (nI_eq (by omega) (by omega)).mp q2
            subst e
            refine ok_some (hQ _ ⟨Dm_nopiv hD hlt htn hti2 hz, W, hP, ?_, ?_⟩)
            · obtain ⟨E, O, D, d, h1, h2, h3, h4, h5, h6, h7, h8, h9⟩ := hD; exact h8
            · obtain ⟨E, O, D, d, h1, h2, h3, h4, h5, h6, h7, h8, h9⟩ := hD; exact h9
          · have hin2 : i < n := by
              rcases Nat.lt_or_ge i n with q3 | q3
              · exact q3
              · exact absurd (show nI i = nI n by rw [show i = n by omega]) q2
            have hnz2 := hnz hin2
            -- after the exchange
            refine ok_jn (fun k194 => ∀ (rn rm : Nat → Int32) (rd : Nat → Nat → Int32) (X : Nat → Int), PO rn rm rd X → Dm N n c t (fun i e => V (12 * rr i + e)) V X (if i = c then g else -g) → X (156 + (6 * c + c)) ≠ 0 → ok (k194 rn rm rd) Q) ?_ ?_
            · intro rn rm rd X hX hDX hXne
              refine ok_jn (fun k206 => ok (k206 (if i = c then g else -g)) Q) ?_ ?_
              · refine ok_nmr (nI (c + 1)) (nI_1 ..) ?_
                refine ok_jn (fun k395 => ∀ (sn sm : Nat → Int32) (sd : Nat → Nat → Int32) (Y : Nat → Int), PO sn sm sd Y → Dm N n (c + 1) t (fun i e => V (12 * rr i + e)) V Y (if i = c then g else -g) → ok (k395 sn sm sd) Q) ?_ ?_
                · intro sn sm sd Y hY hDY
                  refine ok_nmr (nI (c + 1)) (nI_1 ..) ?_
                  exact ih _ _ _ _ _ ⟨c + 1, Y, hlt, rfl, hY, hDY⟩ (by rw [nI_clamp (by omega), nI_clamp (by omega)]; omega)
                · intro k395 h395
                  have hDX' := hDX
                  obtain ⟨E, O, D, d, d1, d2, d3, d4, d5, d6, d7, d8, d9⟩ := hDX
                  have hXs9 := d9
                  have hszX : ∀ i j, c ≤ i → i < n → c ≤ j → j < n → sz (X (156 + (6 * i + j))) (14 * (c + 1) + 1) := fun i j h1 h2 h3 h4 => Dm_sz hDX' hn htn h1 h2 h3 h4
                  refine lo4_F (fun v sn sm sd => ∃ (k : Nat) (Y : Nat → Int), c < k ∧ k ≤ n ∧ v = nI k ∧ PO sn sm sd Y ∧ (∀ p j, c < p → p < k → c < j → j < n → Y (156 + (6 * p + j)) = (X (156 + (6 * p + j)) * X (156 + (6 * c + c)) - X (156 + (6 * p + c)) * X (156 + (6 * c + j))).tdiv D) ∧ ∀ q, q < 192 → (∀ p j, c < p → p < k → c < j → j < n → q ≠ 156 + (6 * p + j)) → Y q = X q) (fun v _ _ _ => n - v.toNatClampNeg) ?_ ⟨c + 1, X, by omega, by omega, rfl, hX, fun p j h1 h2 => absurd h1 (by omega), fun _ _ _ => rfl⟩ (by omega)
                  rintro ks v sn sm sd ⟨k, Y, hck, hkn, rfl, hY, y1, y2⟩ ih2
                  refine ok_if (fun q3 => ?_) (fun q3 => ?_)
                  · have e : k = n := by
                      have := (nI_leI (by omega) (by omega)).mp q3
                      omega
                    subst e
                    refine h395 _ _ _ Y hY (Dm_step hDX' hn hlt htn hti hXne ⟨D, d6, d5, y1⟩ y2 (fun q hq1 hq2 hqs => ?_))
                    by_cases qq : ∃ p j, c < p ∧ p < k ∧ c < j ∧ j < k ∧ q = 156 + (6 * p + j)
                    · obtain ⟨p, j, p1, p2, p3, p4, rfl⟩ := qq
                      rw [y1 p j p1 p2 p3 p4]
                      have hc4 : c ≤ 4 := by omega
                      have a1 := sz_sub (sz_mul (hszX p j (by omega) p2 (by omega) p4) (hszX c c (by omega) hlt (by omega) hlt)) (sz_mul (hszX p c (by omega) p2 (by omega) hlt) (hszX c j (by omega) hlt (by omega) p4))
                      exact sz_mono (tdiv_szI a1) (by omega)
                    · rw [y2 q hq2 (fun p j p1 p2 p3 p4 e => qq ⟨p, j, p1, p2, p3, p4, e⟩)]
                      exact hXs9 q hq1 hq2 hqs
                  · have hk2 : k < n := by
                      rcases Nat.lt_or_ge k n with q1 | q1
                      · exact q1
                      · exact absurd ((nI_leI (by omega) (by omega)).mpr q1) q3
                    refine ok_nmr (nI (c + 1)) (nI_1 ..) ?_
                    refine ok_jn (fun k389 => ∀ (tn tm : Nat → Int32) (td : Nat → Nat → Int32) (Z : Nat → Int), PO tn tm td Z → (∀ j, c < j → j < n → Z (156 + (6 * k + j)) = (Y (156 + (6 * k + j)) * Y (156 + (6 * c + c)) - Y (156 + (6 * k + c)) * Y (156 + (6 * c + j))).tdiv D) → (∀ q, q < 192 → (∀ j, c < j → j < n → q ≠ 156 + (6 * k + j)) → Z q = Y q) → ok (k389 tn tm td) Q) ?_ ?_
                    · intro tn tm td Z hZ z1 z2
                      refine ok_nmr (nI (k + 1)) (nI_1 ..) ?_
                      refine ih2 _ _ _ _ ⟨k + 1, Z, by omega, hk2, rfl, hZ, ?_, ?_⟩ (by rw [nI_clamp (by omega), nI_clamp (by omega)]; omega)
                      · intro p j p1 p2 p3 p4
                        by_cases q4 : p = k
                        · subst q4
                          rw [z1 j p3 p4, y2 (156 + (6 * p + j)) (by omega) (fun _ _ _ _ _ _ => by omega), y2 (156 + (6 * c + c)) (by omega) (fun _ _ _ _ _ _ => by omega), y2 (156 + (6 * p + c)) (by omega) (fun _ _ _ _ _ _ => by omega), y2 (156 + (6 * c + j)) (by omega) (fun _ _ _ _ _ _ => by omega)]
                        · rw [z2 _ (by omega) (fun _ _ _ => by omega)]; exact y1 p j p1 (by omega) p3 p4
                      · intro q hq1 hq2
                        rw [z2 q hq1 (fun j j1 j2 => hq2 k j hck (by omega) j1 j2)]
                        exact y2 q hq1 (fun p j p1 p2 p3 p4 => hq2 p j p1 (by omega) p3 p4)
                    · intro k389 h389
                      refine bj_ok hY hn hck hk2 d1.1 d6 (fun c1 => by rw [y2 _ (by omega) (fun _ _ _ _ _ _ => by omega)]; exact d5 c1) (sz_mono (Bz_Ds d1 hc hn d7) (by omega)) (fun i j i1 j1 i2 j2 => ?_) h389
                      by_cases qq : c < i ∧ i < k ∧ c < j
                      · rw [y1 i j qq.1 qq.2.1 qq.2.2 j1]
                        have e1 := d4 i j (by omega) i1 (by omega) j1
                        have e2 := d4 c c (by omega) hlt (by omega) hlt
                        have e3 := d4 i c (by omega) i1 (by omega) hlt
                        have e4 := d4 c j (by omega) hlt (by omega) j1
                        rw [e1, e2, e3, e4]
                        have hne' : E c (t c) ≠ 0 := by rw [← e2]; exact hXne
                        have b1 := Bz_step (E' := fun k e => (E k e * E c (t c) - E k (t c) * E c e).tdiv D) d1 hlt htn hti2 hne' (fun k hk hkn e he => Int.mul_tdiv_cancel' (Bz_div d1 hlt htn hti2 hne' hk hkn he))
                        have b2 := Bz_bd b1 d7 htn (i := i) (e := t j) (by omega) i1 (htn j j1)
                        exact sz_mono (fbd_szI (by omega) b2) (by omega)
                      · rw [y2 _ (by omega) (fun p p2 p3 p4 p5 p6 e => qq (by omega))]
                        exact sz_mono (hszX i j i2 i1 j2 j1) (by omega)
              · intro k206 h206
                refine ok_if (fun q3 => ?_) (fun q3 => ?_)
                · have e : i = c := (nI_eq (by omega) (by omega)).mp q3
                  rw [if_pos e] at h206; exact h206
                · have e : ¬ i = c := fun e => q3 (by rw [e])
                  rw [if_neg e] at h206; exact h206
            · intro k194 h194
              by_cases hic : i = c
              · subst hic
                have hx := h194 qn qm qd W hP (by rw [if_pos rfl]; exact hD) hnz2
                refine lo4_F (fun v rn rm rd => v = 0 ∧ rn = qn ∧ rm = qm ∧ rd = qd) (fun _ _ _ _ => 0) ?_ ⟨rfl, rfl, rfl, rfl⟩ (by omega)
                rintro ks v rn rm rd ⟨rfl, rfl, rfl, rfl⟩ ih2
                refine ok_if (fun _ => hx) (fun _ => ok_if (fun _ => hx) (fun q4 => absurd rfl q4))
              · have hall : ∀ q, 156 ≤ q → q < 192 → sz (W q) 150 := by
                  obtain ⟨E, O, D, d, h1, h2, h3, h4, h5, h6, h7, h8, h9⟩ := hD
                  exact fun q a b => h9 q a b (hVs q a b)
                refine lo4_F (fun v rn rm rd => ∃ (j : Nat) (X : Nat → Int), j ≤ n ∧ v = nI j ∧ PO rn rm rd X ∧ (∀ p, p < j → X (156 + (6 * i + p)) = W (156 + (6 * c + p)) ∧ X (156 + (6 * c + p)) = W (156 + (6 * i + p))) ∧ ∀ q, q < 192 → (∀ p, p < j → q ≠ 156 + (6 * i + p) ∧ q ≠ 156 + (6 * c + p)) → X q = W q) (fun v _ _ _ => n - v.toNatClampNeg) ?_ ⟨0, W, Nat.zero_le n, nI_0.symm, hP, fun p hp => absurd hp (by omega), fun _ _ _ => rfl⟩ (by omega)
                rintro ks v rn rm rd ⟨j, X, hj, rfl, hX, x1, x2⟩ ih2
                refine ok_if (fun q3 => ?_) (fun q3 => ?_)
                · have e : j = n := by
                    have := (nI_leI (by omega) (by omega)).mp q3
                    omega
                  subst e
                  refine h194 _ _ _ X hX ?_ ?_
                  · rw [if_neg hic]
                    refine Dm_swap hD hn (by omega) hin2 htn x1 x2 (fun q hq1 hq2 _ => ?_)
                    by_cases qq : ∃ p, p < j ∧ (q = 156 + (6 * i + p) ∨ q = 156 + (6 * c + p))
                    · obtain ⟨p, p1, rfl | rfl⟩ := qq
                      · rw [(x1 p p1).1]; exact hall _ (by omega) (by omega)
                      · rw [(x1 p p1).2]; exact hall _ (by omega) (by omega)
                    · rw [x2 q hq2 (fun p p1 => ⟨fun e => qq ⟨p, p1, Or.inl e⟩, fun e => qq ⟨p, p1, Or.inr e⟩⟩)]
                      exact hall q hq1 hq2
                  · rw [(x1 c hlt).2]; exact hnz2
                · have hj2 : j < n := by
                    rcases Nat.lt_or_ge j n with q1 | q1
                    · exact q1
                    · exact absurd ((nI_leI (by omega) (by omega)).mpr q1) q3
                  refine ok_if (fun q4 => absurd ((nI_eq (by omega) (by omega)).mp q4) hic) (fun _ => ?_)
                  have wi : X (156 + (6 * i + j)) = W (156 + (6 * i + j)) := x2 _ (by omega) (fun p hp => by omega)
                  have wc : X (156 + (6 * c + j)) = W (156 + (6 * c + j)) := x2 _ (by omega) (fun p hp => by omega)
                  rw [ix6, ix6]
                  refine ok_in (vp_in_nI (by omega) (by decide)) (ok_nmr (156 + (6 * i + j)) (by rw [nI_clamp (by omega)]) ?_)
                  refine ok_p (by omega) ?_
                  refine ok_b3 (xcp (hX (156 + (6 * i + j)) (by omega)) (by rw [wi]; exact sz_mono (hall _ (by omega) (by omega)) (by decide))) ?_
                  intro a1 a2 a3 hu
                  rw [wi] at hu
                  refine ok_nm (fun pn14 e1 => ok_nm (fun pm15 e2 => ok_nm (fun pd16 e3 => ?_)))
                  have g1 : PO pn14 pm15 pd16 (vu X 192 (W (156 + (6 * i + j)))) := by rw [e1, e2, e3]; exact hX.up hu
                  clear e1 e2 e3 hu
                  refine ok_in (vp_in_nI (by omega) (by decide)) (ok_nmr (156 + (6 * i + j)) (by rw [nI_clamp (by omega)]) ?_)
                  refine ok_in (vp_in_nI (by omega) (by decide)) (ok_nmr (156 + (6 * c + j)) (by rw [nI_clamp (by omega)]) ?_)
                  refine ok_p (by omega) ?_
                  refine ok_b3 (xcp (g1 (156 + (6 * c + j)) (by omega)) (by rw [vu_n (by omega), wc]; exact sz_mono (hall _ (by omega) (by omega)) (by decide))) ?_
                  intro b1 b2 b3 hu
                  rw [vu_n (by omega), wc] at hu
                  refine ok_nm (fun pn32 e1 => ok_nm (fun pm33 e2 => ok_nm (fun pd34 e3 => ?_)))
                  have g2 : PO pn32 pm33 pd34 (vu (vu X 192 (W (156 + (6 * i + j)))) (156 + (6 * i + j)) (W (156 + (6 * c + j)))) := by rw [e1, e2, e3]; exact g1.up hu
                  clear e1 e2 e3 hu
                  refine ok_in (vp_in_nI (by omega) (by decide)) (ok_nmr (156 + (6 * c + j)) (by rw [nI_clamp (by omega)]) ?_)
                  refine ok_p (by omega) ?_
                  refine ok_b3 (xcp (g2 192 (by decide)) (by rw [vu_n (by omega), vu_s]; exact sz_mono (hall _ (by omega) (by omega)) (by decide))) ?_
                  intro c1 c2 c3 hu
                  rw [vu_n (by omega), vu_s] at hu
                  refine ok_nm (fun pn48 e1 => ok_nm (fun pm49 e2 => ok_nm (fun pd50 e3 => ?_)))
                  have g3 : PO pn48 pm49 pd50 (vu (vu (vu X 192 (W (156 + (6 * i + j)))) (156 + (6 * i + j)) (W (156 + (6 * c + j)))) (156 + (6 * c + j)) (W (156 + (6 * i + j)))) := by rw [e1, e2, e3]; exact g2.up hu
                  clear e1 e2 e3 hu
                  refine ok_nmr (nI (j + 1)) (nI_1 ..) ?_
                  refine ih2 _ _ _ _ ⟨j + 1, _, hj2, rfl, g3, ?_, ?_⟩ (by rw [nI_clamp (by omega), nI_clamp (by omega)]; omega)
                  · intro p hp
                    by_cases q5 : p = j
                    · subst q5
                      exact ⟨by rw [vu_n (by omega), vu_s], by rw [vu_s]⟩
                    · obtain ⟨y1, y2⟩ := x1 p (by omega)
                      exact ⟨by rw [vu_n (by omega), vu_n (by omega), vu_n (by omega), y1], by rw [vu_n (by omega), vu_n (by omega), vu_n (by omega), y2]⟩
                  · intro q hq1 hq2
                    obtain ⟨y1, y2⟩ := hq2 j (by omega)
                    rw [vu_n y2, vu_n y1, vu_n (by omega)]
                    exact x2 q hq1 (fun p hp => hq2 p (by omega))
        · intro k98 h98
          refine lo1_F (fun v => ∃ i : Nat, c ≤ i ∧ i ≤ n ∧ v = nI i ∧ ∀ k, c ≤ k → k < i → W (156 + (6 * k + c)) = 0) (fun v => n - v.toNatClampNeg) ?_ ⟨c, Nat.le_refl c, hc, rfl, fun k h1 h2 => absurd h1 (by omega)⟩ (by omega)
          rintro ks v ⟨i, hci, hin, rfl, hz⟩ ih2
          refine ok_if (fun q2 => ?_) (fun q2 => ?_)
          · have e : i = n := by
              have := (nI_leI (by omega) (by omega)).mp q2
              omega
            exact h98 i hci hin hz (fun hh => absurd hh (by omega))
          · have hi2 : i < n := by
              rcases Nat.lt_or_ge i n with q1 | q1
              · exact q1
              · exact absurd ((nI_leI (by omega) (by omega)).mpr q1) q2
            rw [ix6]
            refine ok_in (vp_in_nI (by omega) (by decide)) (ok_nmr (156 + (6 * i + c)) (by rw [nI_clamp (by omega)]) ?_)
            have hx0 := x0 (hP (156 + (6 * i + c)) (by omega)) (sz_mono (hsW i c hci hi2 (Nat.le_refl c) hlt) (by decide))
            refine ok_if (fun q3 => ?_) (fun q3 => ?_)
            · refine ok_nmr (nI (i + 1)) (nI_1 ..) ?_
              refine ih2 _ ⟨i + 1, by omega, hi2, rfl, fun k h1 h2 => ?_⟩ (by rw [nI_clamp (by omega), nI_clamp (by omega)]; omega)
              by_cases q4 : k = i
              · rw [q4]; exact hx0.mp q3
              · exact hz k h1 (by omega)
            · exact h98 i hci hin hz (fun _ e => q3 (hx0.mpr e))
  · intro k56 h56
    refine lo4_F (fun v qn qm qd => ∃ (a : Nat) (W : Nat → Int), a ≤ n ∧ v = nI a ∧ PO qn qm qd W ∧ (∀ i j, i < a → j < n → W (156 + (6 * i + j)) = V (12 * rr i + t j)) ∧ ∀ q, q < 192 → (∀ i j, i < a → j < n → q ≠ 156 + (6 * i + j)) → W q = V q) (fun v _ _ _ => n - v.toNatClampNeg) ?_ ⟨0, V, Nat.zero_le n, nI_0.symm, h, fun i _ hi => absurd hi (by omega), fun _ _ _ => rfl⟩ (by omega)
    rintro ks v qn qm qd ⟨a, W, ha, rfl, hW, w1, w2⟩ ih
    refine ok_if (fun q => ?_) (fun q => ?_)
    · have e : a = n := by
        have := (nI_leI (by omega) (by omega)).mp q
        omega
      subst e
      refine h56 _ _ _ W hW (Dm_0 hOb (fun i j hi hj => w1 i j hi hj) (fun q hq => w2 q (by omega) (fun i j _ _ => by omega)) (fun q hq1 hq2 hqs => ?_))
      by_cases qq : ∃ i j, i < a ∧ j < a ∧ q = 156 + (6 * i + j)
      · obtain ⟨i, j, i1, j1, rfl⟩ := qq
        rw [w1 i j i1 j1]
        exact sz_mono (hs i i1 (t j) (htn j j1)) (by decide)
      · rw [w2 q hq2 (fun i j i1 j1 e => qq ⟨i, j, i1, j1, e⟩)]; exact hqs
    · have hlt : a < n := by
        rcases Nat.lt_or_ge a n with q1 | q1
        · exact q1
        · exact absurd ((nI_leI (by omega) (by omega)).mpr q1) q
      refine ok_jn (fun k50 => ∀ (qn qm : Nat → Int32) (qd : Nat → Nat → Int32) (X : Nat → Int), PO qn qm qd X → (∀ j, j < n → X (156 + (6 * a + j)) = V (12 * rr a + t j)) → (∀ q, q < 192 → (∀ j, j < n → q ≠ 156 + (6 * a + j)) → X q = W q) → ok (k50 qn qm qd) Q) ?_ ?_
      · intro rn rm rd X hX x1 x2
        refine ok_nmr (nI (a + 1)) (nI_1 ..) ?_
        refine ih _ _ _ _ ⟨a + 1, X, hlt, rfl, hX, ?_, ?_⟩ (by rw [nI_clamp (by omega), nI_clamp (by omega)]; omega)
        · intro i j hi hj
          by_cases q3 : i = a
          · subst q3; exact x1 j hj
          · rw [x2 _ (by omega) (fun p hp => by omega)]; exact w1 i j (by omega) hj
        · intro q hq1 hq2
          rw [x2 q hq1 (fun j hj => hq2 a j (by omega) hj)]
          exact w2 q hq1 (fun i j hi hj => hq2 i j (by omega) hj)
      · intro k50 h50
        refine lo4_F (fun v rn rm rd => ∃ (b : Nat) (X : Nat → Int), b ≤ n ∧ v = nI b ∧ PO rn rm rd X ∧ (∀ j, j < b → X (156 + (6 * a + j)) = V (12 * rr a + t j)) ∧ ∀ q, q < 192 → (∀ j, j < b → q ≠ 156 + (6 * a + j)) → X q = W q) (fun v _ _ _ => n - v.toNatClampNeg) ?_ ⟨0, W, Nat.zero_le n, nI_0.symm, hW, fun i hi => absurd hi (by omega), fun _ _ _ => rfl⟩ (by omega)
        rintro ks2 v rn rm rd ⟨b, X, hb, rfl, hX, x1, x2⟩ ih2
        refine ok_if (fun q2 => ?_) (fun q2 => ?_)
        · have e : b = n := by
            have := (nI_leI (by omega) (by omega)).mp q2
            omega
          subst e
          exact h50 _ _ _ X hX x1 x2
        · have hb2 : b < n := by
            rcases Nat.lt_or_ge b n with q1 | q1
            · exact q1
            · exact absurd ((nI_leI (by omega) (by omega)).mpr q1) q2
          obtain ⟨f1, f2⟩ := hfr a hlt
          obtain ⟨f3, f4⟩ := hfc b hb2
          rw [ix6]
          refine ok_in (vp_in_nI (by omega) (by decide)) (ok_nmr (156 + (6 * a + b)) (by rw [nI_clamp (by omega)]) ?_)
          refine ok_in (vp_in_nI (by omega) (by decide)) (ok_in (vp_in_nI (by omega) (by decide)) ?_)
          rw [nI_clamp (by omega), nI_clamp (by omega), f1, f3]
          refine ok_b1 (at_ok (by omega)) ?_
          rintro r8 rfl
          refine ok_p (by omega) ?_
          have wv : X (12 * rr a + t b) = V (12 * rr a + t b) := by
            rw [x2 _ (by omega) (fun j hj => by omega), w2 _ (by omega) (fun i j hi hj => by omega)]
          refine ok_b3 (xcp (hX (12 * rr a + t b) (by omega)) (by rw [wv]; exact sz_mono (hs a hlt _ f4) (by decide))) ?_
          intro a1 a2 a3 hu
          rw [wv] at hu
          refine ok_nm (fun pn14 e1 => ok_nm (fun pm15 e2 => ok_nm (fun pd16 e3 => ?_)))
          have g1 := hX.up (k := 156 + (6 * a + b)) hu
          rw [← e1, ← e2, ← e3] at g1
          refine ok_nmr (nI (b + 1)) (nI_1 ..) ?_
          refine ih2 _ _ _ _ ⟨b + 1, _, hb2, rfl, g1, ?_, ?_⟩ (by rw [nI_clamp (by omega), nI_clamp (by omega)]; omega)
          · intro j hj
            by_cases q5 : j = b
            · subst q5; rw [vu_s]
            · rw [vu_n (by omega)]; exact x1 j (by omega)
          · intro q hq1 hq2
            rw [vu_n (hq2 b (by omega))]
            exact x2 q hq1 (fun j hj => hq2 j (by omega))
