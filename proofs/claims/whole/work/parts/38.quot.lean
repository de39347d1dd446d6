def sh (d : Nat → Int32) (i : Nat) : Nat → Int32 := fun j => d (i + j)
theorem nv_cons (d : Nat → Int32) (n : Nat) : nv d (n + 1) = (d 0).toInt + 65536 * nv (fun j => d (j + 1)) n := by
  induction n with
  | zero => simp [nv]
  | succ n ih =>
    rw [show nv d (n + 1 + 1) = nv d (n + 1) + (d (n + 1)).toInt * 65536 ^ (n + 1) from rfl, ih]
    rw [show nv (fun j => d (j + 1)) (n + 1) = nv (fun j => d (j + 1)) n + (d (n + 1)).toInt * 65536 ^ n from rfl, Int.pow_succ]
    grind
theorem sh_nv {d : Nat → Int32} {i n : Nat} : nv (sh d i) (n + 1) = (d i).toInt + 65536 * nv (sh d (i + 1)) n := by
  rw [nv_cons]
  have e : nv (fun j => sh d i (j + 1)) n = nv (sh d (i + 1)) n := nv_congr (fun j _ => by simp only [sh]; congr 1; omega)
  rw [e]; rfl
/-- the digits are moved up by one place -/
theorem sf_loop {R : Type} {Q : R → Prop} {kk : (Nat → Int32) → Option R} {t : Nat} {d : Nat → Int32} (ht : t ≤ 159) (hC : ∀ w : Nat → Int32, (∀ j, j < t → w (j + 1) = d j) → ok (kk w) Q) :
    ok (lo2 (fun k_23 (v5_42 : Int32) (w_43 : Nat → Int32) => ck_if (v5_42 ≤ 0) (kk w_43) (ck_in (v5_42 - 1) 160 <| ck_in v5_42 160 <| ck_nm (v5_42 + (-1)) <| fun x_47 => k_23 x_47 (upd w_43 v5_42.toNatClampNeg (w_43 (v5_42 - 1).toNatClampNeg)))) ck_F (nI t) d) Q := by
  refine lo2_F (fun v w => ∃ i, i ≤ t ∧ v = nI i ∧ (∀ j, j < i → w j = d j) ∧ ∀ j, i ≤ j → j < t → w (j + 1) = d j) (fun v _ => v.toNatClampNeg) ?_ ⟨t, Nat.le_refl t, rfl, fun _ _ => rfl, fun j h1 h2 => absurd h1 (by omega)⟩ (by rw [nI_clamp (by omega)]; omega)
  rintro kr v w ⟨i, hi, rfl, h1, h2⟩ ih
  refine ok_if (fun q => ?_) (fun q => ?_)
  · have e := (nI_le0 (by omega)).mp q
    subst e
    exact hC w (fun j hj => h2 j (by omega) hj)
  · have e : i ≠ 0 := fun e => q ((nI_le0 (by omega)).mpr e)
    obtain ⟨j, rfl⟩ : ∃ j, i = j + 1 := ⟨i - 1, by omega⟩
    rw [nI_pred]
    refine ok_in (vp_in_nI (by omega) (by decide)) (ok_in (vp_in_nI (by omega) (by decide)) ?_)
    refine ok_nm (fun y hy => ?_)
    rw [pk_m1] at hy
    subst hy
    rw [nI_clamp (by omega), nI_clamp (by omega)]
    refine ih _ _ ⟨j, by omega, rfl, fun p hp => ?_, fun p h3 h4 => ?_⟩ (by rw [nI_clamp (by omega), nI_clamp (by omega)]; omega)
    · rw [pk_un (by omega)]; exact h1 p (by omega)
    · by_cases q2 : p = j
      · subst q2; rw [pk_us]; exact h1 p (by omega)
      · rw [pk_un (by omega)]; exact h2 p (by omega) h4
theorem tdiv_sg {A B : Int} (hA : 0 ≤ A) (hB : 0 < B) (s t : Bool) : (if s then -A else A).tdiv (if t then -B else B) = if s = t then A / B else -(A / B) := by
  have h := Int.tdiv_eq_ediv_of_nonneg (b := B) hA
  cases s <;> cases t <;> simp [Int.neg_tdiv, Int.tdiv_neg, h]
/-- quotient: rounded towards 0, and the rest of the sizes -/
theorem qt_ok {k l : Nat} {na nb ma mb : Int32} {da db x wd : Nat → Int32} {va vb : Int} (ha : Nu na ma da k va) (hb : Nu nb mb db l vb) (hk : k ≤ 160) (hl : l ≤ 158) (hb0 : vb ≠ 0) : ok (f_N_quotient 160 x na ma 160 da nb mb 160 db 160 wd) (fun r => ∃ k' t : Nat, k' ≤ k ∧ t ≤ l ∧ Nu r.1 r.2.1 r.2.2.1 k' (va.tdiv vb) ∧ Nu r.2.2.2.1 r.2.2.2.2.1 r.2.2.2.2.2 t (va.natAbs % vb.natAbs : Nat)) := by
  obtain ⟨rfl, hda, hta, hma, hka, hva⟩ := ha
  obtain ⟨rfl, hdb, htb, hmb, hlb, hvb⟩ := hb
  have hA := nv_nn hda
  have hB0 := nv_nn hdb
  have hB : 0 < nv db l := by
    rcases Int.lt_or_le 0 (nv db l) with h | h
    · exact h
    · exfalso; apply hb0
      have : nv db l = 0 := by omega
      rw [hvb, this]; simp
  unfold f_N_quotient
  refine ok_b2 (Q1 := fun r => r = (0, 0)) ⟨_, rfl, rfl⟩ ?_
  rintro u1 u2 hu
  have hu1 := (Prod.mk.inj hu).1
  have hu2 := (Prod.mk.inj hu).2
  subst hu1; subst hu2
  refine ok_nm (fun y hy => ?_)
  rw [vj_sub] at hy
  subst hy
  refine ok_jn (fun k111 => ∀ (w : Nat → Int32) (t : Nat) (rd : Nat → Int32), t ≤ l → dg w k → dg rd t → nt rd t → nv rd t < nv db l → nv w k * nv db l + nv rd t = nv da k → ok (k111 w (nI t) 0 rd) (fun r => ∃ k' t : Nat, k' ≤ k ∧ t ≤ l ∧ Nu r.1 r.2.1 r.2.2.1 k' (va.tdiv vb) ∧ Nu r.2.2.2.1 r.2.2.2.2.1 r.2.2.2.2.2 t (va.natAbs % vb.natAbs : Nat))) ?_ ?_
  · intro w t rd ht hw hrd hnt hlt he
    have hq0 := nv_nn hw
    have hr0 := nv_nn hrd
    have hdiv : nv da k / nv db l = nv w k := by
      rw [← he, Int.add_comm, Int.add_mul_ediv_right _ _ (by omega), Int.ediv_eq_zero_of_lt hr0 hlt]; omega
    have hmod : nv da k % nv db l = nv rd t := by
      rw [← he, Int.add_comm, Int.add_mul_emod_self_right, Int.emod_eq_of_lt hr0 hlt]
    refine ok_jn (fun k136 => ok (k136 (if ma = mb then 0 else 1)) (fun r => ∃ k' t : Nat, k' ≤ k ∧ t ≤ l ∧ Nu r.1 r.2.1 r.2.2.1 k' (va.tdiv vb) ∧ Nu r.2.2.2.1 r.2.2.2.2.1 r.2.2.2.2.2 t (va.natAbs % vb.natAbs : Nat))) ?_ ?_
    · have hs : (if ma = mb then (0 : Int32) else 1) = 0 ∨ (if ma = mb then (0 : Int32) else 1) = 1 := by
        split
        · exact Or.inl rfl
        · exact Or.inr rfl
      refine ok_z hs ?_
      refine ok_b2 (tr_ok hk hs) ?_
      rintro u1 u2 ⟨k', h1, h2, h3, h4, h5⟩
      dsimp only at h2 h5
      refine ok_some ⟨k', t, h1, ht, ⟨h2, dg_le hw h1, h3, ?_, fun e => by rw [h5, if_pos e], ?_⟩, ⟨rfl, hrd, hnt, Or.inl rfl, fun _ => rfl, ?_⟩⟩
      · rw [h5]; split
        · exact Or.inl rfl
        · exact hs
      · have hv : va.tdiv vb = if ma = mb then nv w k else - nv w k := by
          have h6 := tdiv_sg hA hB (decide (ma = 1)) (decide (mb = 1))
          rw [hdiv] at h6
          rw [hva, hvb]
          rcases hma with q | q <;> rcases hmb with q2 | q2 <;> simp [q, q2] at h6 ⊢ <;> exact h6
        dsimp only
        rw [hv, h5, h4]
        by_cases e : k' = 0
        · subst e
          have : nv w k = 0 := by rw [← h4]; rfl
          rw [this]; simp
        · rw [if_neg e]
          by_cases q : ma = mb
          · simp [q]
          · simp [q]
      · have e1 : (va.natAbs : Int) = nv da k := by
          rw [hva]; split <;> omega
        have e2 : (vb.natAbs : Int) = nv db l := by
          rw [hvb]; split <;> omega
        dsimp only
        rw [if_pos rfl, Int.natCast_emod, e1, e2, hmod]
    · intro k136 h
      refine ok_if (fun q => ?_) (fun q => ?_)
      · rw [if_pos q] at h; exact h
      · rw [if_neg q] at h; exact h
  · intro k111 hC
    refine lo5_F (fun v w rn rm rd => ∃ i t : Nat, i ≤ k ∧ t ≤ l ∧ v = vj i ∧ rn = nI t ∧ rm = 0 ∧ dg rd t ∧ nt rd t ∧ nv rd t < nv db l ∧ (∀ j, i ≤ j → j < k → 0 ≤ (w j).toInt ∧ (w j).toInt < 65536) ∧ nv (sh w i) (k - i) * nv db l + nv rd t = nv (sh da i) (k - i)) (fun v _ _ _ _ => (v.toInt + 1).toNat) ?_ ⟨k, 0, Nat.le_refl k, Nat.zero_le l, rfl, nI_0.symm, rfl, fun j hj => absurd hj (by omega), fun h => absurd h (by omega), by simpa [nv] using hB, fun j h1 h2 => absurd h1 (by omega), by simp [nv]⟩ ?_
    · rintro kr v w rn rm rd ⟨i, t, hi, ht, rfl, rfl, rfl, hrd, hnt, hlt, hwd, he⟩ ih
      refine ok_if (fun q => ?_) (fun q => ?_)
      · have i0 := (vj_neg (by omega)).mp q
        subst i0
        refine hC w t rd ht (fun j hj => hwd j (by omega) hj) hrd hnt hlt ?_
        have e1 : sh w 0 = w := by funext j; simp [sh]
        have e2 : sh da 0 = da := by funext j; simp [sh]
        rw [e1, e2, Nat.sub_zero] at he
        exact he
      · have i0 : i ≠ 0 := fun h => q ((vj_neg (by omega)).mpr h)
        obtain ⟨i', rfl⟩ : ∃ q, i = q + 1 := ⟨i - 1, by omega⟩
        have hv : vj (i' + 1) = nI i' := rfl
        rw [hv]
        obtain ⟨a0, a1⟩ := hda i' (by omega)
        refine ok_jn (fun k50 => ∀ w21 : Nat → Int32, (∀ j, j < t → w21 (j + 1) = rd j) → ok (k50 w21) (fun r => ∃ k' t : Nat, k' ≤ k ∧ t ≤ l ∧ Nu r.1 r.2.1 r.2.2.1 k' (va.tdiv vb) ∧ Nu r.2.2.2.1 r.2.2.2.2.1 r.2.2.2.2.2 t (va.natAbs % vb.natAbs : Nat))) ?_ (fun k50 h => sf_loop (by omega) h)
        intro w21 hw21
        refine ok_in (vp_in_nI (by omega) (by decide)) (ok_in (vp_in_nI (n := 0) (by decide) (by decide)) ?_)
        rw [nI_clamp (by omega), show (0 : Int32).toNatClampNeg = 0 from rfl, nI_1]
        have hdu : dg (upd w21 0 (da i')) (t + 1) := by
          intro j hj
          cases j with
          | zero => rw [pk_us]; exact ⟨a0, a1⟩
          | succ j => rw [pk_un (by omega), hw21 j (by omega)]; exact hrd j (by omega)
        have hvu : nv (upd w21 0 (da i')) (t + 1) = (da i').toInt + 65536 * nv rd t := by
          rw [nv_cons, pk_us, nv_congr (e := rd) (fun j hj => by rw [pk_un (by omega)]; exact hw21 j hj)]
        generalize upd w21 0 (da i') = ru at hdu hvu ⊢
        refine ok_b2 (tr_ok (by omega) (Or.inl rfl)) ?_
        rintro u3 u4 ⟨t2, g1, g2, g3, g4, g5⟩
        dsimp only at g2 g5
        have g5 : u4 = 0 := by rw [g5]; split <;> rfl
        subst g2; subst g5
        have hdt := dg_le hdu g1
        refine ok_in (vp_in_nI (by omega) (by decide)) ?_
        obtain ⟨cr, hcr, hcmp⟩ := cs_ok (by omega : t2 ≤ 160) (by omega : l ≤ 160) hdt hdb g3 htb
        refine ok_b1 (Q1 := fun r => r = cr) ⟨cr, hcr, rfl⟩ ?_
        rintro a1 rfl
        have hki : k - i' = (k - (i' + 1)) + 1 := by omega
        refine ok_jn (fun k105 => ∀ (w' : Nat → Int32) (t' : Nat) (rd' : Nat → Int32) (q : Int), t' ≤ l → dg rd' t' → nt rd' t' → nv rd' t' < nv db l → (∀ j, i' < j → w' j = w j) → (w' i').toInt = q → 0 ≤ q → q < 65536 → q * nv db l + nv rd' t' = (da i').toInt + 65536 * nv rd t → ok (k105 w' (nI t') 0 rd') (fun r => ∃ k' t : Nat, k' ≤ k ∧ t ≤ l ∧ Nu r.1 r.2.1 r.2.2.1 k' (va.tdiv vb) ∧ Nu r.2.2.2.1 r.2.2.2.2.1 r.2.2.2.2.2 t (va.natAbs % vb.natAbs : Nat))) ?_ ?_
        · intro w' t' rd' q e1 e2 e3 e4 e5 e6 e7 e8 e9
          refine ok_nm (fun y hy => ?_)
          have hy2 : y = vj i' := by rw [hy, ← hv]; exact vj_pred i'
          subst hy2
          refine ih _ _ _ _ _ ⟨i', t', by omega, e1, rfl, rfl, rfl, e2, e3, e4, fun j h1 h2 => ?_, ?_⟩ ?_
          · by_cases q3 : j = i'
            · subst q3; rw [e6]; exact ⟨e7, e8⟩
            · rw [e5 j (by omega)]; exact hwd j (by omega) h2
          · rw [hki, sh_nv, sh_nv, e6]
            have e10 : nv (sh w' (i' + 1)) (k - (i' + 1)) = nv (sh w (i' + 1)) (k - (i' + 1)) := nv_congr (fun j _ => by simp only [sh]; exact e5 _ (by omega))
            rw [e10]
            generalize nv (sh w (i' + 1)) (k - (i' + 1)) = A1 at he ⊢
            generalize nv (sh da (i' + 1)) (k - (i' + 1)) = A2 at he ⊢
            grind
          · rw [hv, nI_toInt (by omega)]
            cases i' with
            | zero => simp [vj]
            | succ i' => simp only [vj]; rw [nI_toInt (by omega)]; omega
        · intro k105 hk105
          have hu0 : ∀ z : Int32, (upd w i' z) i' = z := fun z => pk_us
          refine ok_if (fun c => ?_) (fun c => ?_)
          · have hsm : nv ru t2 < nv db l := by
              rcases hcmp with ⟨q, -⟩ | ⟨q, -⟩ | ⟨-, q⟩
              · rw [q] at c; exact absurd c (by decide)
              · rw [q] at c; exact absurd c (by decide)
              · exact q
            have ht2 : t2 ≤ l := by
              rcases Nat.lt_or_ge l t2 with q | q
              · have := nv_mono_len hdb hdt g3 q; omega
              · exact q
            refine hk105 (upd w i' 0) t2 ru 0 ht2 hdt g3 hsm (fun j hj => pk_un (by omega)) (by rw [pk_us]; rfl) (by decide) (by decide) ?_
            rw [g4, hvu]; omega
          · have hge : nv db l ≤ nv ru t2 := by
              rcases hcmp with ⟨-, q⟩ | ⟨-, q⟩ | ⟨q, -⟩
              · omega
              · omega
              · rw [q] at c; exact absurd (by decide) c
            have hlt2 : l ≤ t2 := by
              rcases Nat.lt_or_ge t2 l with q | q
              · have := nv_mono_len hdt hdb htb q; omega
              · exact q
            refine ok_b4 (of_ok (by omega) hlt2 hdt hdb hge (by rw [g4, hvu]; omega)) ?_
            rintro r6 r7 r8 r9 ⟨q, k', f1, f2, f3, f4, f5, f6, f7, f8, f9, f10⟩
            dsimp only at f4 f5 f6 f7 f8 f9
            subst f4; subst f5; subst f6
            have hmul : nv db l * ((q : Int) + 1) = nv db l * q + nv db l := by grind
            have hsm : nv r9 k' < nv db l := by rw [f9]; omega
            have hk' : k' ≤ l := by
              rcases Nat.lt_or_ge l k' with q2 | q2
              · have := nv_mono_len hdb f7 f8 q2; omega
              · exact q2
            refine ok_in (vp_in_nI (by omega) (by decide)) ?_
            refine hk105 _ k' r9 (q : Int) hk' f7 f8 hsm (fun j hj => by rw [pk_un (by omega), pk_un (by omega)]) (by rw [pk_us]; exact nI_toInt (by omega)) (by omega) (by omega) ?_
            rw [f9, g4, hvu, Int.mul_comm]; omega
    · cases k with
      | zero => simp [vj]
      | succ k => simp only [vj]; rw [nI_toInt (by omega)]; omega
