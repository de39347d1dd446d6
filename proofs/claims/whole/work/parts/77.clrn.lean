/-! the class: signs, independent sets, ranks -/
theorem lsg_ok {lo mi hi : Nat → Int64} {sg0 sets starts : Nat → Int32} {os st : Nat → Nat} {cv : Nat → Int32} {N k : Nat} (hN : N ≤ 12) (hk : k ≤ N) (hO : OC N sets starts os st) (hd : ∀ S, S < 2 ^ N → cn S = k → Dg lo mi S ∧ sI (mval lo mi hi S) = cv S) (hcv0 : ∀ S, S < 2 ^ N → cn S ≠ k → cv S = 0) : ok (f_S_learnSigns (nI k) 4096 sg0 4096 sets 14 starts 4096 lo 4096 mi 4096 hi) (fun r => ∀ S, S < 2 ^ N → cn S = k → r S = cv S * fs N os cv (2 ^ N)) := by
  have hM := p2_12 hN
  obtain ⟨o1, o2, o3, o4, o5⟩ := hO
  have hs1 := (o2 k (by omega)).2
  have hs2 := (o2 (k + 1) (by omega)).2
  have hlow : ∀ a, a ≤ st k → fs N os cv a = 0 := by
    intro a
    induction a with
    | zero => intro _; rfl
    | succ a ih =>
      intro ha
      simp only [fs]
      rw [if_pos (o1 a (by omega)).2, if_pos (ih (by omega))]
      refine hcv0 _ (o1 a (by omega)).2 (fun hc => ?_)
      have := (o3 a k (by omega) hk).mpr hc
      omega
  unfold f_S_learnSigns
  refine ok_in (vp_in_nI (by omega) (by decide)) ?_
  refine ok_nmr (nI (st k)) (by rw [nI_clamp (by omega), (o2 k (by omega)).1]) ?_
  refine lo3_F (fun v f w => ∃ a : Nat, st k ≤ a ∧ a ≤ st (k + 1) ∧ v = nI a ∧ f = fs N os cv a ∧ ∀ b, st k ≤ b → b < a → w (os b) = cv (os b) * fs N os cv (2 ^ N)) (fun v _ _ => st (k + 1) - v.toNatClampNeg) ?_ ⟨st k, Nat.le_refl _, o5 k hk, rfl, (hlow _ (Nat.le_refl _)).symm, fun b h1 h2 => absurd h1 (by omega)⟩ (by omega)
  rintro kr v f w ⟨a, ha1, ha2, rfl, rfl, h1⟩ ih
  rw [nI_1]
  refine ok_in (vp_in_nI (by omega) (by decide)) ?_
  rw [nI_clamp (by omega), (o2 (k + 1) (by omega)).1]
  refine ok_if (fun q => ?_) (fun q => ?_)
  · have e : a = st (k + 1) := by
      have := (nI_leI (by omega) (by omega)).mp q
      omega
    subst e
    refine ok_some (fun S hS hc => ?_)
    obtain ⟨b, b1, rfl⟩ := o4 S hS
    have := (o3 b k b1 hk).mpr hc
    exact h1 b this.1 this.2
  · have hlt : a < st (k + 1) := by
      rcases Nat.lt_or_ge a (st (k + 1)) with q1 | q1
      · exact q1
      · exact absurd ((nI_leI (by omega) (by omega)).mpr q1) q
    have haM : a < 2 ^ N := by omega
    obtain ⟨s1, s2⟩ := o1 a haM
    have hcn : cn (os a) = k := (o3 a k haM hk).mp ⟨ha1, hlt⟩
    obtain ⟨d1, d2⟩ := hd _ s2 hcn
    refine ok_in (vp_in_nI (by omega) (by decide)) ?_
    refine ok_nmr (nI (os a)) (by rw [nI_clamp (by omega), s1]) ?_
    refine ok_b1 (so_ok (by omega) d1) ?_
    rintro r10 rfl
    rw [d2]
    refine ok_jn (fun k56 => ok (k56 (fs N os cv (a + 1))) (fun r => ∀ S, S < 2 ^ N → cn S = k → r S = cv S * fs N os cv (2 ^ N))) ?_ ?_
    · refine ok_in (vp_in_nI (by omega) (by decide)) ?_
      refine ok_nmr (nI (a + 1)) (nI_1 ..) ?_
      rw [nI_clamp (by omega), fs_at haM s2]
      refine ih _ _ _ ⟨a + 1, by omega, hlt, rfl, rfl, fun b hb1 hb2 => ?_⟩ (by rw [nI_clamp (by omega), nI_clamp (by omega)]; omega)
      by_cases q2 : os b = os a
      · rw [q2, pk_us]
      · rw [pk_un q2]
        have hba : b ≠ a := fun e => q2 (by rw [e])
        exact h1 b hb1 (by omega)
    · intro k56 h56
      simp only [fs] at h56
      rw [if_pos s2] at h56
      refine ok_if (fun q2 => ?_) (fun q2 => ?_)
      · rw [if_pos q2] at h56; exact h56
      · rw [if_neg q2] at h56; exact h56
theorem nI_orb {S e : Nat} (he : e < 31) : nI S ||| ((1 : Int32) <<< (nI e &&& 31)) = nI (if S.testBit e = true then S else tg S e) := by
  rw [nI_31 (by omega), nI_shl he, nI_or]
  congr 1
  by_cases q : S.testBit e = true
  · rw [if_pos q]
    apply Nat.eq_of_testBit_eq
    intro x
    rw [Nat.testBit_or, Nat.testBit_two_pow]
    by_cases q2 : e = x
    · subst q2; rw [q]; rfl
    · simp [q2]
  · rw [if_neg q]
    exact tg_or (by simpa using q)
theorem ha_ok {rk : Nat → Int32} {cv : Nat → Int32} {N S : Nat} (hN : N ≤ 12) (hS : S < 2 ^ N) (hrk : ∀ T, S < T → T < 2 ^ N → (Fr N cv T → rk T = nI (cn T)) ∧ (¬ Fr N cv T → rk T = -1)) : ok (f_S_hasIndependentAbove (nI N) 4096 rk (nI S)) (fun r => r = 1 ∧ (∃ e, e < N ∧ S.testBit e = false ∧ Fr N cv (tg S e)) ∨ r = 0 ∧ ¬ ∃ e, e < N ∧ S.testBit e = false ∧ Fr N cv (tg S e)) := by
  have hM := p2_12 hN
  unfold f_S_hasIndependentAbove
  refine lo1_F (fun v => ∃ e : Nat, e ≤ N ∧ v = nI e ∧ ∀ f, f < e → S.testBit f = false → ¬ Fr N cv (tg S f)) (fun v => N - v.toNatClampNeg) ?_ ⟨0, Nat.zero_le _, nI_0.symm, fun f hf => absurd hf (by omega)⟩ (by omega)
  rintro kr v ⟨e, he, rfl, h1⟩ ih
  refine ok_if (fun q => ?_) (fun q => ?_)
  · have e1 : e = N := by
      have := (nI_leI (by omega) (by omega)).mp q
      omega
    subst e1
    exact ok_some (Or.inr ⟨rfl, fun ⟨f, f1, f2, f3⟩ => h1 f f1 f2 f3⟩)
  · have hlt : e < N := by
      rcases Nat.lt_or_ge e N with q1 | q1
      · exact q1
      · exact absurd ((nI_leI (by omega) (by omega)).mpr q1) q
    refine ok_nmr _ (nI_orb (by omega)) ?_
    refine ok_jn (fun k33 => (S.testBit e = false → ¬ Fr N cv (tg S e)) → ok (k33 ()) (fun r => r = 1 ∧ (∃ e, e < N ∧ S.testBit e = false ∧ Fr N cv (tg S e)) ∨ r = 0 ∧ ¬ ∃ e, e < N ∧ S.testBit e = false ∧ Fr N cv (tg S e))) ?_ ?_
    · intro h2
      refine ok_nmr (nI (e + 1)) (nI_1 ..) ?_
      refine ih _ ⟨e + 1, hlt, rfl, fun f hf hb => ?_⟩ (by rw [nI_clamp (by omega), nI_clamp (by omega)]; omega)
      by_cases q2 : f = e
      · subst q2; exact h2 hb
      · exact h1 f (by omega) hb
    · intro k33 h33
      cases hb : S.testBit e with
      | true =>
        rw [if_pos rfl]
        exact ok_if (fun _ => h33 (fun hc => by rw [hb] at hc; cases hc)) (fun q2 => absurd rfl q2)
      | false =>
        rw [if_neg (by decide)]
        have htl : tg S e < 2 ^ N := tg_lt hS hlt
        have hgt := tg_gt hb
        refine ok_if (fun q2 => absurd ((nI_eq (by omega) (by omega)).mp q2) tg_nself) (fun _ => ?_)
        refine ok_in (vp_in_nI (by omega) (by decide)) ?_
        rw [nI_clamp (by omega)]
        obtain ⟨r1, r2⟩ := hrk _ hgt htl
        have hc12 := cn_le (tg S e)
        by_cases hf : Fr N cv (tg S e)
        · rw [r1 hf]
          refine ok_if (fun q2 => absurd q2 ?_) (fun _ => ok_some (Or.inl ⟨rfl, e, hlt, hb, hf⟩))
          intro q3
          have := nI_pos' (n := cn (tg S e)) (by omega)
          rw [q3] at this
          revert this; decide
        · rw [r2 hf]
          exact ok_if (fun _ => h33 (fun _ => hf)) (fun q2 => absurd rfl q2)
theorem mk_ok {rk0 sgn : Nat → Int32} {cv : Nat → Int32} {N k : Nat} (hN : N ≤ 12) (hk : k ≤ N) (hsg : ∀ S, S < 2 ^ N → cn S = k → (sgn S = 0 ↔ cv S = 0)) (hcv0 : ∀ S, S < 2 ^ N → cn S ≠ k → cv S = 0) : ok (f_S_markIndependent (nI N) (nI k) 4096 rk0 4096 sgn) (fun r => ∀ S, S < 2 ^ N → (Fr N cv S → r S = nI (cn S)) ∧ (¬ Fr N cv S → r S = -1)) := by
  have hM := p2_12 hN
  have hFk : ∀ S, Fr N cv S → cn S ≤ k := by
    rintro S ⟨T, t1, t2, t3⟩
    have h1 := sub_cn t3
    have h2 : cn T = k := by
      apply Classical.byContradiction
      intro hc
      exact t2 (hcv0 T t1 hc)
    omega
  unfold f_S_markIndependent
  refine ok_nmr (vj (2 ^ N)) (by rw [nI_31 (by omega), nI_shl (by omega), vj_sub]) ?_
  refine lo2_F (fun v w => ∃ a : Nat, a ≤ 2 ^ N ∧ v = vj a ∧ ∀ S, a ≤ S → S < 2 ^ N → (Fr N cv S → w S = nI (cn S)) ∧ (¬ Fr N cv S → w S = -1)) (fun v _ => (v + 1).toNatClampNeg) ?_ ⟨2 ^ N, Nat.le_refl _, rfl, fun S h1 h2 => absurd h1 (by omega)⟩ ?_
  · rintro kr v w ⟨a, ha, rfl, h1⟩ ih
    refine ok_if (fun q => ?_) (fun q => ?_)
    · have e := (vj_neg (by omega)).mp q
      subst e
      exact ok_some (fun S hS => h1 S (Nat.zero_le _) hS)
    · obtain ⟨b, rfl⟩ : ∃ b, a = b + 1 := ⟨a - 1, by have : a ≠ 0 := fun e => q ((vj_neg (by omega)).mpr e); omega⟩
      rw [show vj (b + 1) = nI b from rfl]
      have hcb := cn_le b
      refine ok_b1 (bc_ok (by omega)) ?_
      rintro r5 rfl
      refine ok_jn (fun k64 => ∀ s : Int32, (s = 1 ∧ Fr N cv b ∨ s = 0 ∧ ¬ Fr N cv b) → ok (k64 s) (fun r => ∀ S, S < 2 ^ N → (Fr N cv S → r S = nI (cn S)) ∧ (¬ Fr N cv S → r S = -1))) ?_ ?_
      · intro s hs
        refine ok_jn (fun k79 => ∀ z : Int32, (Fr N cv b → z = nI (cn b)) → (¬ Fr N cv b → z = -1) → ok (k79 z) (fun r => ∀ S, S < 2 ^ N → (Fr N cv S → r S = nI (cn S)) ∧ (¬ Fr N cv S → r S = -1))) ?_ ?_
        · intro z z1 z2
          refine ok_in (vp_in_nI (by omega) (by decide)) ?_
          refine ok_nmr (vj b) (vj_pred b) ?_
          rw [nI_clamp (by omega)]
          refine ih _ _ ⟨b, by omega, rfl, fun S hS1 hS2 => ?_⟩ ?_
          · by_cases q2 : S = b
            · subst q2; rw [pk_us]; exact ⟨z1, z2⟩
            · rw [pk_un q2]; exact h1 S (by omega) hS2
          · rw [show vj (b + 1) = nI b from rfl, nI_1, nI_clamp (by omega), ← vj_sub, Int32.sub_add_cancel, nI_clamp (by omega)]; omega
        · intro k79 h79
          rcases hs with ⟨rfl, g⟩ | ⟨rfl, g⟩
          · exact ok_if (fun q2 => absurd q2 (by decide)) (fun _ => h79 _ (fun _ => rfl) (fun hc => absurd g hc))
          · exact ok_if (fun _ => h79 _ (fun hc => absurd hc g) (fun _ => rfl)) (fun q2 => absurd rfl q2)
      · intro k64 h64
        refine ok_if (fun q2 => ?_) (fun q2 => ?_)
        · have hck : cn b = k := (nI_eq (by omega) (by omega)).mp q2
          refine ok_in (vp_in_nI (by omega) (by decide)) ?_
          rw [nI_clamp (by omega)]
          have hiff : Fr N cv b ↔ cv b ≠ 0 := by
            constructor
            · intro hf
              rcases (Fr_rec (show b < 2 ^ N by omega)).mp hf with h | ⟨e, e1, e2, e3⟩
              · exact h
              · have h2 := hFk _ e3
                have h3 := cnt_tg (n := 12) (e := e) (by omega) b
                rw [if_neg (by rw [e2]; decide), if_neg (by rw [e2]; decide)] at h3
                unfold cn at h2 hck
                omega
            · intro h; exact (Fr_rec (by omega)).mpr (Or.inl h)
          refine ok_if (fun q3 => ?_) (fun q3 => ?_)
          · exact h64 0 (Or.inr ⟨rfl, fun hf => (hiff.mp hf) ((hsg b (by omega) hck).mp q3)⟩)
          · exact h64 1 (Or.inl ⟨rfl, hiff.mpr (fun hc => q3 ((hsg b (by omega) hck).mpr hc))⟩)
        · have hck : cn b ≠ k := fun e => q2 (by rw [e])
          have hcb0 := hcv0 b (by omega) hck
          refine ok_jn (fun k63 => ¬ Fr N cv b → ok (k63 ()) (fun r => ∀ S, S < 2 ^ N → (Fr N cv S → r S = nI (cn S)) ∧ (¬ Fr N cv S → r S = -1))) (fun hf => h64 0 (Or.inr ⟨rfl, hf⟩)) ?_
          intro k63 h63
          refine ok_if (fun q3 => ?_) (fun q3 => ?_)
          · have := (nI_leI (by omega) (by omega)).mp q3
            exact h63 (fun hf => by have := hFk b hf; omega)
          · refine ok_b1 (ha_ok (cv := cv) hN (show b < 2 ^ N by omega) (fun T hT1 hT2 => h1 T (by omega) hT2)) ?_
            intro r14 hr
            rcases hr with ⟨rfl, g⟩ | ⟨rfl, g⟩
            · exact ok_if (fun q4 => absurd q4 (by decide)) (fun _ => h64 1 (Or.inl ⟨rfl, (Fr_rec (by omega)).mpr (Or.inr g)⟩))
            · refine ok_if (fun _ => h63 (fun hf => ?_)) (fun q4 => absurd rfl q4)
              rcases (Fr_rec (show b < 2 ^ N by omega)).mp hf with h | h
              · exact h hcb0
              · exact g h
  · rw [← vj_sub, Int32.sub_add_cancel, nI_clamp (by omega)]; omega
theorem gru_ok {rk : Nat → Int32} {ρ : Nat → Nat} {N S : Nat} (hN : N ≤ 12) (hS : S < 2 ^ N) (hrk : ∀ T, T < S → rk T = nI (ρ T) ∧ ρ T ≤ 12) : ok (f_S_greatestRankUnder (nI N) 4096 rk (nI S)) (fun r => ∃ z : Nat, r = nI z ∧ z ≤ 12 ∧ (∀ e, e < N → S.testBit e = true → ρ (tg S e) ≤ z) ∧ (z = 0 ∨ ∃ e, e < N ∧ S.testBit e = true ∧ z = ρ (tg S e))) := by
  have hM := p2_12 hN
  unfold f_S_greatestRankUnder
  refine lo2_F (fun v x => ∃ e z : Nat, e ≤ N ∧ v = nI e ∧ x = nI z ∧ z ≤ 12 ∧ (∀ f, f < e → S.testBit f = true → ρ (tg S f) ≤ z) ∧ (z = 0 ∨ ∃ f, f < e ∧ S.testBit f = true ∧ z = ρ (tg S f))) (fun v _ => N - v.toNatClampNeg) ?_ ⟨0, 0, Nat.zero_le _, nI_0.symm, nI_0.symm, by omega, fun f hf => absurd hf (by omega), Or.inl rfl⟩ (by omega)
  rintro kr v x ⟨e, z, he, rfl, rfl, g1, g2, g3⟩ ih
  refine ok_if (fun q => ?_) (fun q => ?_)
  · have e1 : e = N := by
      have := (nI_leI (by omega) (by omega)).mp q
      omega
    subst e1
    exact ok_some ⟨z, rfl, g1, g2, g3⟩
  · have hlt : e < N := by
      rcases Nat.lt_or_ge e N with q1 | q1
      · exact q1
      · exact absurd ((nI_leI (by omega) (by omega)).mpr q1) q
    refine ok_nmr _ (nI_clr (by omega) (by omega)) ?_
    refine ok_jn (fun k46 => ∀ y : Nat, y ≤ 12 → z ≤ y → (S.testBit e = true → ρ (tg S e) ≤ y) → (y = z ∨ S.testBit e = true ∧ y = ρ (tg S e)) → ok (k46 (nI y)) (fun r => ∃ z : Nat, r = nI z ∧ z ≤ 12 ∧ (∀ e, e < N → S.testBit e = true → ρ (tg S e) ≤ z) ∧ (z = 0 ∨ ∃ e, e < N ∧ S.testBit e = true ∧ z = ρ (tg S e)))) ?_ ?_
    · intro y y1 y2 y3 y4
      refine ok_nmr (nI (e + 1)) (nI_1 ..) ?_
      refine ih _ _ ⟨e + 1, y, hlt, rfl, rfl, y1, fun f hf hb => ?_, ?_⟩ (by rw [nI_clamp (by omega), nI_clamp (by omega)]; omega)
      · by_cases q2 : f = e
        · subst q2; exact y3 hb
        · have := g2 f (by omega) hb; omega
      · rcases y4 with rfl | ⟨y4, y5⟩
        · rcases g3 with g3 | ⟨f, f1, f2, f3⟩
          · exact Or.inl g3
          · exact Or.inr ⟨f, by omega, f2, f3⟩
        · exact Or.inr ⟨e, by omega, y4, y5⟩
    · intro k46 h46
      cases hb : S.testBit e with
      | false =>
        rw [if_neg (by decide)]
        exact ok_if (fun _ => h46 z g1 (Nat.le_refl _) (fun hc => by rw [hb] at hc; cases hc) (Or.inl rfl)) (fun q2 => absurd rfl q2)
      | true =>
        rw [if_pos rfl]
        have hd := tg_dn hb
        obtain ⟨r1, r2⟩ := hrk _ hd
        refine ok_if (fun q2 => absurd ((nI_eq (by omega) (by omega)).mp q2) tg_nself) (fun _ => ?_)
        refine ok_in (vp_in_nI (by omega) (by decide)) ?_
        rw [nI_clamp (by omega), r1]
        refine ok_if (fun q2 => ?_) (fun q2 => ?_)
        · have := (nI_leI (by omega) (by omega)).mp q2
          exact h46 z g1 (Nat.le_refl _) (fun _ => this) (Or.inl rfl)
        · have : ¬ ρ (tg S e) ≤ z := fun h => q2 ((nI_leI (by omega) (by omega)).mpr h)
          refine ok_in (vp_in_nI (by omega) (by decide)) (ok_nmr (nI (ρ (tg S e))) rfl ?_)
          exact h46 _ r2 (by omega) (fun _ => Nat.le_refl _) (Or.inr ⟨hb, rfl⟩)
theorem lr_ok {rk0 : Nat → Int32} {cv : Nat → Int32} {N : Nat} (hN : N ≤ 12) (hF0 : Fr N cv 0) (hrk : ∀ S, S < 2 ^ N → (Fr N cv S → rk0 S = nI (cn S)) ∧ (¬ Fr N cv S → rk0 S = -1)) : ok (f_S_learnRanks (nI N) 4096 rk0) (fun r => ∃ ρ : Nat → Nat, ∀ S, S < 2 ^ N → r S = nI (ρ S) ∧ IsRk N cv S (ρ S)) := by
  have hM := p2_12 hN
  have hP := Nat.two_pow_pos N
  unfold f_S_learnRanks
  rw [nI_31 (by omega), nI_shl (by omega)]
  refine lo2_F (fun v w => ∃ (a : Nat) (ρ : Nat → Nat), 1 ≤ a ∧ a ≤ 2 ^ N ∧ v = nI a ∧ (∀ S, S < a → w S = nI (ρ S) ∧ IsRk N cv S (ρ S)) ∧ ∀ S, a ≤ S → w S = rk0 S) (fun v _ => 2 ^ N - v.toNatClampNeg) ?_ ⟨1, fun _ => 0, Nat.le_refl _, hP, rfl, fun S hS => ?_, fun _ _ => rfl⟩ (by omega)
  · rintro kr v w ⟨a, ρ, ha1, ha, rfl, h1, h2⟩ ih
    refine ok_if (fun q => ?_) (fun q => ?_)
    · have e : a = 2 ^ N := by
        have := (nI_leI (by omega) (by omega)).mp q
        omega
      subst e
      exact ok_some ⟨ρ, h1⟩
    · have hlt : a < 2 ^ N := by
        rcases Nat.lt_or_ge a (2 ^ N) with q1 | q1
        · exact q1
        · exact absurd ((nI_leI (by omega) (by omega)).mpr q1) q
      have hρ12 : ∀ T, T < a → ρ T ≤ 12 := by
        intro T hT
        obtain ⟨⟨J, j1, j2, j3⟩, -⟩ := (h1 T hT).2
        have := cn_le J
        omega
      refine ok_in (vp_in_nI (by omega) (by decide)) ?_
      rw [nI_clamp (by omega), h2 a (Nat.le_refl a)]
      obtain ⟨r1, r2⟩ := hrk a hlt
      refine ok_jn (fun k33 => ∀ (w' : Nat → Int32) (z : Nat), w' a = nI z → IsRk N cv a z → (∀ T, T ≠ a → w' T = w T) → ok (k33 w') (fun r => ∃ ρ : Nat → Nat, ∀ S, S < 2 ^ N → r S = nI (ρ S) ∧ IsRk N cv S (ρ S))) ?_ ?_
      · intro w' z z1 z2 z3
        refine ok_nmr (nI (a + 1)) (nI_1 ..) ?_
        refine ih _ _ ⟨a + 1, fun S => if S = a then z else ρ S, by omega, hlt, rfl, fun S hS => ?_, fun S hS => ?_⟩ (by rw [nI_clamp (by omega), nI_clamp (by omega)]; omega)
        · by_cases q2 : S = a
          · subst q2; simp only [if_pos]; exact ⟨z1, z2⟩
          · simp only [if_neg q2]; rw [z3 S q2]; exact h1 S (by omega)
        · rw [z3 S (by omega)]; exact h2 S (by omega)
      · intro k33 h33
        have hca := cn_le a
        by_cases hf : Fr N cv a
        · rw [r1 hf]
          refine ok_if (fun q2 => ?_) (fun _ => ?_)
          · have := nI_pos' (n := cn a) (by omega)
            rw [q2] at this
            exact absurd this (by decide)
          · refine h33 w (cn a) (by rw [h2 a (Nat.le_refl a), r1 hf]) ?_ (fun _ _ => rfl)
            exact ⟨⟨a, sub_rfl a, hf, rfl⟩, fun I hI _ => sub_cn hI⟩
        · rw [r2 hf]
          refine ok_if (fun _ => ?_) (fun q2 => absurd rfl q2)
          refine ok_b1 (gru_ok (ρ := ρ) hN hlt (fun T hT => ⟨(h1 T hT).1, hρ12 T hT⟩)) ?_
          rintro r8 ⟨z, rfl, z1, z2, z3⟩
          refine ok_in (vp_in_nI (by omega) (by decide)) ?_
          refine h33 _ z pk_us ?_ (fun T hT => pk_un hT)
          refine IsRk_rec hlt hF0 (fun e => ρ (tg a e)) (fun e he hb => (h1 _ (tg_dn hb)).2) (fun h => absurd h hf) z2 ?_
          rcases z3 with z3 | z3
          · exact Or.inr (Or.inr z3)
          · exact Or.inr (Or.inl z3)
  · have : S = 0 := by omega
    subst this
    have hc0 : cn 0 = 0 := by decide
    rw [(hrk 0 hP).1 hF0, hc0]
    refine ⟨rfl, ⟨0, sub_rfl 0, hF0, hc0⟩, fun I hI _ => ?_⟩
    have := sub_cn hI
    omega
