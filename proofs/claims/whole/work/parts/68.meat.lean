/-! measure: signs, free sets, ranks -/
theorem ix4096 (t S : Nat) : (4096 : Int32) * nI t + nI S = nI (4096 * t + S) := by rw [show (4096 : Int32) = nI 4096 from rfl, pk_mul, nI_add]
theorem nI_bit0 {S c : Nat} (hS : S < 2 ^ 31) (hc : c < 31) : ((nI S >>> (nI c &&& 31)) &&& 1 = 0) ↔ S.testBit c = false := by
  rw [nI_31 (by omega), nI_shr hS (by omega), show (1 : Int32) = nI 1 from rfl, nI_and (Nat.lt_of_le_of_lt (Nat.div_le_self _ _) hS) (by decide), nI_eq0 (Nat.lt_of_le_of_lt Nat.and_le_right (by decide)), Nat.and_one_is_mod, Nat.testBit_eq_decide_div_mod_eq]
  simp
theorem p2_12 {N : Nat} (h : N ≤ 12) : 2 ^ N ≤ 4096 := Nat.pow_le_pow_right (by decide) h
theorem nar_nI {k : Nat} (h : k ≤ 12) : vp_nar .byte (nI k).toInt8.toInt32 = nI k := by
  have : ∀ k : Fin 13, vp_nar .byte (nI k.val).toInt8.toInt32 = nI k.val := by
    intro k
    match k with
    | ⟨0, _⟩ => rfl
    | ⟨1, _⟩ => rfl
    | ⟨2, _⟩ => rfl
    | ⟨3, _⟩ => rfl
    | ⟨4, _⟩ => rfl
    | ⟨5, _⟩ => rfl
    | ⟨6, _⟩ => rfl
    | ⟨7, _⟩ => rfl
    | ⟨8, _⟩ => rfl
    | ⟨9, _⟩ => rfl
    | ⟨10, _⟩ => rfl
    | ⟨11, _⟩ => rfl
    | ⟨12, _⟩ => rfl
  exact this ⟨k, by omega⟩
theorem me_okQ {Q : ((Nat → Int32) × (Nat → Int32) × (Nat → Int32) × (Nat → Int32) × (Nat → Int32) × (Nat → Int32) × (Nat → Int32) × (Nat → Nat → Int32)) → Prop} {I : (Nat → Int32) → (Nat → Int32) → (Nat → Nat → Int32) → Prop} {smalls pvs fr0 fc0 sm0 rk0 sg0 ord szs pn pm : Nat → Int32} {pd : Nat → Nat → Int32} {os : Nat → Nat} {cv : Nat → Int32} {p N R t : Nat} (hN : N ≤ 12) (hR : R ≤ 12) (ht : t < 4) (hp : p < 2 ^ 31) (hord : ∀ k, k < 4096 → ord k = nI (os k) ∧ os k < 4096) (hsur : ∀ S, S < 4096 → ∃ k, k < 4096 ∧ os k = S) (hsz : ∀ S, S < 4096 → szs S = nI (cn S)) (hI : I pn pm pd)
    (hmin : ∀ (fr fc sm pn pm : Nat → Int32) (pd : Nat → Nat → Int32) (S : Nat), I pn pm pd → S < 2 ^ N → cn S = R → ok (f_R_minorOf (nI R) (nI N) (nI p) smalls pvs fr fc sm pn pm pd (nI S)) (fun r => r.1 = cv S ∧ I r.2.2.2.2.1 r.2.2.2.2.2.1 r.2.2.2.2.2.2)) (hcv : ∀ S, tv (cv S)) (hcv0 : ∀ S, cn S ≠ R → cv S = 0) (hne : ∃ S, S < 2 ^ N ∧ cv S ≠ 0)
    (hQ : ∀ (fr fc sm rk sg qn qm : Nat → Int32) (qd : Nat → Nat → Int32), (∀ S, S < 2 ^ N → sg (4096 * t + S) = if p = 0 then cv S * fs N os cv 4096 else cv S) → (∀ q, (∀ S, S < 2 ^ N → q ≠ 4096 * t + S) → sg q = sg0 q) → (∃ ρ : Nat → Nat, ∀ S, S < 2 ^ N → rk (4096 * t + S) = nI (ρ S) ∧ IsRk N cv S (ρ S)) → (∀ q, (∀ S, S < 2 ^ N → q ≠ 4096 * t + S) → rk q = rk0 q) → I qn qm qd → Q (fr, fc, sm, rk, sg, qn, qm, qd)) :
    ok (f_R_measure (nI R) (nI N) (nI p) smalls pvs fr0 fc0 sm0 rk0 sg0 ord szs pn pm pd (nI t)) Q := by
  have hM := p2_12 hN
  have hF0 : Fr N cv 0 := by
    obtain ⟨S, h1, h2⟩ := hne
    exact ⟨S, h1, h2, fun e he => by rw [Nat.zero_testBit] at he; cases he⟩
  unfold f_R_measure
  refine ok_nmr (nI (2 ^ N)) (by rw [nI_31 (by omega), nI_shl (by omega)]) ?_
  refine ok_jn (fun k111 => ∀ (fr fc sm sg qn qm : Nat → Int32) (qd : Nat → Nat → Int32), I qn qm qd → (∀ S, S < 2 ^ N → sg (4096 * t + S) = if p = 0 then cv S * fs N os cv 4096 else cv S) → (∀ q, (∀ S, S < 2 ^ N → q ≠ 4096 * t + S) → sg q = sg0 q) → ok (k111 fr fc sm sg qn qm qd) Q) ?_ ?_
  · intro fr fc sm sg qn qm qd hIq hsg hsgo
    have hsg0 : ∀ S, S < 2 ^ N → (sg (4096 * t + S) = 0 ↔ cv S = 0) := by
      intro S hS
      rw [hsg S hS]
      by_cases q : p = 0
      · rw [if_pos q]
        obtain ⟨S0, s1, s2⟩ := hne
        obtain ⟨k0, k1, k2⟩ := hsur S0 (by omega)
        have hfne : fs N os cv 4096 ≠ 0 := by
          have h1 : fs N os cv (k0 + 1) ≠ 0 := by
            simp only [fs]
            rw [k2, if_pos s1]
            by_cases q2 : fs N os cv k0 = 0
            · rw [if_pos q2]; exact s2
            · rw [if_neg q2]; exact q2
          rw [fs_st (k := k0 + 1) (by omega) h1]; exact h1
        have h3 := fs_tv (N := N) (os := os) hcv 4096
        have h4 := hcv S
        generalize fs N os cv 4096 = f at *
        generalize cv S = c at *
        unfold tv at h3 h4
        rcases h3 with rfl | rfl | rfl
        · exact absurd rfl hfne
        · rw [Int32.mul_one]
        · rcases h4 with rfl | rfl | rfl <;> decide
      · rw [if_neg q]
    refine ok_nmr (vj (2 ^ N)) (vj_sub _) ?_
    refine ok_jn (fun k250 => ∀ rk : Nat → Int32, (∀ S, S < 2 ^ N → (Fr N cv S → rk (4096 * t + S) = 1) ∧ (¬ Fr N cv S → rk (4096 * t + S) = 0)) → (∀ q, (∀ S, S < 2 ^ N → q ≠ 4096 * t + S) → rk q = rk0 q) → ok (k250 rk) Q) ?_ ?_
    · intro rk hrk hrko
      -- ranks
      refine lo2_F (fun v w => ∃ (a : Nat) (ρ : Nat → Nat), a ≤ 2 ^ N ∧ v = nI a ∧ (∀ S, S < a → w (4096 * t + S) = nI (ρ S) ∧ IsRk N cv S (ρ S)) ∧ (∀ q, (∀ S, S < a → q ≠ 4096 * t + S) → w q = rk q)) (fun v _ => 2 ^ N - v.toNatClampNeg) ?_ ⟨0, fun _ => 0, Nat.zero_le _, nI_0.symm, fun S hS => absurd hS (by omega), fun _ _ => rfl⟩ (by omega)
      rintro kr v w ⟨a, ρ, ha, rfl, h1, h2⟩ ih
      refine ok_if (fun q => ?_) (fun q => ?_)
      · have e : a = 2 ^ N := by
          have := (nI_leI (by omega) (by omega)).mp q
          omega
        subst e
        refine ok_some (hQ _ _ _ _ _ _ _ _ hsg hsgo ⟨ρ, h1⟩ (fun q hq => ?_) hIq)
        rw [h2 q hq]; exact hrko q hq
      · have hlt : a < 2 ^ N := by
          rcases Nat.lt_or_ge a (2 ^ N) with q1 | q1
          · exact q1
          · exact absurd ((nI_leI (by omega) (by omega)).mpr q1) q
        rw [ix4096]
        refine ok_in (vp_in_nI (by omega) (by decide)) ?_
        have hwa : w (4096 * t + a) = rk (4096 * t + a) := h2 _ (fun S hS => by omega)
        refine ok_jn (fun k287 => ∀ r0 : Nat, r0 ≤ 12 → (Fr N cv a → r0 = cn a) → (¬ Fr N cv a → r0 = 0) → ok (k287 (nI r0)) Q) ?_ ?_
        · intro r0 hr0 hr1 hr2
          refine ok_jn (fun k358 => ∀ r : Nat, r ≤ 12 → IsRk N cv a r → ok (k358 (nI r)) Q) ?_ ?_
          · intro r hr hrk2
            refine ok_in (vp_in_nI (by omega) (by decide)) ?_
            refine ok_nmr (nI (a + 1)) (nI_1 ..) ?_
            rw [nI_clamp (by omega), nar_nI hr]
            refine ih _ _ ⟨a + 1, fun S => if S = a then r else ρ S, hlt, rfl, fun S hS => ?_, fun q hq => ?_⟩ (by rw [nI_clamp (by omega), nI_clamp (by omega)]; omega)
            · by_cases q2 : S = a
              · subst q2; simp only [if_pos]; rw [pk_us]; exact ⟨rfl, hrk2⟩
              · simp only [if_neg q2]; rw [pk_un (by omega)]; exact h1 S (by omega)
            · rw [pk_un (hq a (by omega))]; exact h2 q (fun S hS => hq S (by omega))
          · intro k358 h358
            refine lo2_F (fun v x => ∃ e r : Nat, e ≤ N ∧ v = nI e ∧ x = nI r ∧ r ≤ 12 ∧ r0 ≤ r ∧ (∀ f, f < e → a.testBit f = true → ρ (tg a f) ≤ r) ∧ (r = r0 ∨ ∃ f, f < e ∧ a.testBit f = true ∧ r = ρ (tg a f))) (fun v _ => N - v.toNatClampNeg) ?_ ⟨0, r0, Nat.zero_le _, nI_0.symm, rfl, hr0, Nat.le_refl _, fun f hf => absurd hf (by omega), Or.inl rfl⟩ (by omega)
            rintro ks v x ⟨e, r, he, rfl, rfl, g1, g2, g3, g4⟩ ih2
            refine ok_if (fun q2 => ?_) (fun q2 => ?_)
            · have e1 : e = N := by
                have := (nI_leI (by omega) (by omega)).mp q2
                omega
              subst e1
              refine h358 r g1 (IsRk_rec hlt hF0 (fun f => ρ (tg a f)) (fun f hf hb => (h1 _ (tg_dn hb)).2) (fun hf => by rw [← hr1 hf]; exact g2) g3 ?_)
              rcases g4 with rfl | ⟨f, f1, f2, f3⟩
              · by_cases q3 : Fr e cv a
                · exact Or.inl ⟨q3, hr1 q3⟩
                · exact Or.inr (Or.inr (hr2 q3))
              · exact Or.inr (Or.inl ⟨f, f1, f2, f3⟩)
            · have he2 : e < N := by
                rcases Nat.lt_or_ge e N with q1 | q1
                · exact q1
                · exact absurd ((nI_leI (by omega) (by omega)).mpr q1) q2
              have hbit := nI_bit (show a < 2 ^ 31 by omega) (show e < 31 by omega)
              refine ok_jn (fun k334 => ∀ y : Nat, y ≤ 12 → (a.testBit e = true → y = ρ (tg a e)) → (a.testBit e = false → y = 0) → ok (k334 (nI y)) Q) ?_ ?_
              · intro y y0 y1 y2
                refine ok_jn (fun k350 => ∀ z : Nat, z ≤ 12 → r ≤ z → y ≤ z → (z = r ∨ z = y) → ok (k350 (nI z)) Q) ?_ ?_
                · intro z z1 z2 z3 z4
                  refine ok_nmr (nI (e + 1)) (nI_1 ..) ?_
                  refine ih2 _ _ ⟨e + 1, z, he2, rfl, rfl, z1, by omega, fun f hf hb => ?_, ?_⟩ (by rw [nI_clamp (by omega), nI_clamp (by omega)]; omega)
                  · by_cases q4 : f = e
                    · subst q4; rw [← y1 hb]; exact z3
                    · have := g3 f (by omega) hb; omega
                  · rcases z4 with rfl | rfl
                    · rcases g4 with g4 | ⟨f, f1, f2, f3⟩
                      · exact Or.inl g4
                      · exact Or.inr ⟨f, by omega, f2, f3⟩
                    · cases q5 : a.testBit e with
                      | true => exact Or.inr ⟨e, by omega, q5, y1 q5⟩
                      | false =>
                        have := y2 q5
                        rcases g4 with g4 | ⟨f, f1, f2, f3⟩
                        · exact Or.inl (by omega)
                        · exact Or.inr ⟨f, by omega, f2, by omega⟩
                · intro k350 h350
                  refine ok_if (fun q4 => ?_) (fun q4 => ?_)
                  · have := (nI_leI (by omega) (by omega)).mp q4
                    exact h350 r (by omega) (Nat.le_refl _) this (Or.inl rfl)
                  · have : r < y := by
                      rcases Nat.lt_or_ge r y with q5 | q5
                      · exact q5
                      · exact absurd ((nI_leI (by omega) (by omega)).mpr q5) q4
                    exact h350 y y0 (by omega) (Nat.le_refl _) (Or.inr rfl)
              · intro k334 h334
                refine ok_if (fun q4 => ?_) (fun q4 => ?_)
                · have hb := hbit.mp q4
                  have hd := tg_dn hb
                  rw [nI_31 (by omega), nI_shl (by omega), nI_xor, show a ^^^ 2 ^ e = tg a e from rfl, ix4096]
                  refine ok_in (vp_in_nI (by omega) (by decide)) ?_
                  rw [nI_clamp (by omega), (h1 _ hd).1]
                  refine h334 _ ?_ (fun _ => rfl) (fun e' => by rw [hb] at e'; cases e')
                  obtain ⟨⟨J, j1, j2, j3⟩, -⟩ := (h1 _ hd).2
                  have := cn_le J
                  omega
                · have hb : a.testBit e = false := by
                    cases q5 : a.testBit e with
                    | false => rfl
                    | true => exact absurd (hbit.mpr q5) q4
                  exact h334 0 (by omega) (fun e' => by rw [hb] at e'; cases e') (fun _ => rfl)
        · intro k287 h287
          rw [nI_clamp (by omega), hwa]
          refine ok_if (fun q2 => ?_) (fun q2 => ?_)
          · have hf : Fr N cv a := by
              apply Classical.byContradiction
              intro hc
              rw [(hrk a hlt).2 hc] at q2
              revert q2; decide
            refine ok_in (vp_in_nI (by omega) (by decide)) ?_
            rw [nI_clamp (by omega), hsz a (by omega)]
            exact h287 _ (cn_le a) (fun _ => rfl) (fun hc => absurd hf hc)
          · have hf : ¬ Fr N cv a := fun hc => q2 ((hrk a hlt).1 hc)
            exact h287 0 (by omega) (fun hc => absurd hc hf) (fun _ => rfl)
    · intro k250 h250
      -- free sets, from the fullest down
      refine lo2_F (fun v w => ∃ a : Nat, a ≤ 2 ^ N ∧ v = vj a ∧ (∀ S, a ≤ S → S < 2 ^ N → (Fr N cv S → w (4096 * t + S) = 1) ∧ (¬ Fr N cv S → w (4096 * t + S) = 0)) ∧ (∀ q, (∀ S, S < 2 ^ N → q ≠ 4096 * t + S) → w q = rk0 q)) (fun v _ => (v + 1).toNatClampNeg) ?_ ⟨2 ^ N, Nat.le_refl _, rfl, fun S h1 h2 => absurd h1 (by omega), fun _ _ => rfl⟩ ?_
      · rintro kr v w ⟨a, ha, rfl, h1, h2⟩ ih
        refine ok_if (fun q => ?_) (fun q => ?_)
        · have e := (vj_neg (by omega)).mp q
          subst e
          exact h250 w (fun S hS => h1 S (Nat.zero_le _) hS) h2
        · obtain ⟨b, rfl⟩ : ∃ b, a = b + 1 := ⟨a - 1, by have : a ≠ 0 := fun e => q ((vj_neg (by omega)).mpr e); omega⟩
          show ok (ck_in (nI b) 4096 _) Q
          refine ok_in (vp_in_nI (by omega) (by decide)) ?_
          refine ok_jn (fun k156 => ∀ s : Int32, (s = 1 ∧ cv b ≠ 0 ∨ s = 0 ∧ cv b = 0) → ok (k156 s) Q) ?_ ?_
          · intro s hs
            refine ok_jn (fun k220 => ∀ s : Int32, (s = 1 ∧ Fr N cv b ∨ s = 0 ∧ ¬ Fr N cv b) → ok (k220 s) Q) ?_ ?_
            · intro s2 hs2
              refine ok_jn (fun k242 => ∀ s : Int32, (s = 1 ∧ Fr N cv b ∨ s = 0 ∧ ¬ Fr N cv b) → ok (k242 s) Q) ?_ ?_
              · intro s3 hs3
                show ok (ck_in (4096 * nI t + nI b) 16384 (ck_nm (vj (b + 1) + (-1)) _)) Q
                rw [ix4096]
                refine ok_in (vp_in_nI (by omega) (by decide)) ?_
                refine ok_nmr (vj b) (vj_pred b) ?_
                rw [show vj (b + 1) = nI b from rfl, ix4096, nI_clamp (by omega)]
                have htv : vp_nar .byte s3.toInt8.toInt32 = s3 := tv_nar (by rcases hs3 with ⟨rfl, -⟩ | ⟨rfl, -⟩ <;> unfold tv <;> decide)
                rw [htv]
                refine ih _ _ ⟨b, by omega, rfl, fun S hS1 hS2 => ?_, fun q hq => ?_⟩ ?_
                · by_cases q2 : S = b
                  · subst q2
                    rw [pk_us]
                    rcases hs3 with ⟨rfl, g⟩ | ⟨rfl, g⟩
                    · exact ⟨fun _ => rfl, fun hc => absurd g hc⟩
                    · exact ⟨fun hc => absurd hc g, fun _ => rfl⟩
                  · rw [pk_un (by omega)]; exact h1 S (by omega) hS2
                · rw [pk_un (hq b (by omega))]; exact h2 q hq
                · rw [show vj (b + 1) = nI b from rfl, nI_1, nI_clamp (by omega), ← vj_sub, Int32.sub_add_cancel, nI_clamp (by omega)]; omega
              · intro k242 h242
                rcases hs2 with ⟨rfl, g⟩ | ⟨rfl, g⟩
                · exact ok_if (fun q2 => absurd q2 (by decide)) (fun _ => h242 1 (Or.inl ⟨rfl, g⟩))
                · exact ok_if (fun _ => h242 0 (Or.inr ⟨rfl, g⟩)) (fun q2 => absurd rfl q2)
            · intro k220 h220
              refine lo2_F (fun v x => ∃ e : Nat, e ≤ N ∧ v = nI e ∧ (x = 1 ∧ Fr N cv b ∨ x = 0 ∧ cv b = 0 ∧ ∀ f, f < e → b.testBit f = false → ¬ Fr N cv (tg b f))) (fun v _ => N - v.toNatClampNeg) ?_ ⟨0, Nat.zero_le _, nI_0.symm, ?_⟩ (by omega)
              · rintro ks v x ⟨e, he, rfl, hx⟩ ih2
                refine ok_if (fun q2 => ?_) (fun q2 => ?_)
                · have e1 : e = N := by
                    have := (nI_leI (by omega) (by omega)).mp q2
                    omega
                  subst e1
                  rcases hx with ⟨rfl, g⟩ | ⟨rfl, g1, g2⟩
                  · exact h220 1 (Or.inl ⟨rfl, g⟩)
                  · refine h220 0 (Or.inr ⟨rfl, fun hc => ?_⟩)
                    rcases (Fr_rec (show b < 2 ^ e by omega)).mp hc with h | ⟨f, f1, f2, f3⟩
                    · exact h g1
                    · exact g2 f f1 f2 f3
                · have he2 : e < N := by
                    rcases Nat.lt_or_ge e N with q1 | q1
                    · exact q1
                    · exact absurd ((nI_leI (by omega) (by omega)).mpr q1) q2
                  rcases hx with ⟨rfl, g⟩ | ⟨rfl, g1, g2⟩
                  · exact ok_if (fun q3 => absurd q3 (by decide)) (fun _ => h220 1 (Or.inl ⟨rfl, g⟩))
                  · refine ok_if (fun _ => ?_) (fun q3 => absurd rfl q3)
                    refine ok_jn (fun k212 => ∀ s : Int32, (s = 1 ∧ Fr N cv b ∨ s = 0 ∧ (b.testBit e = false → ¬ Fr N cv (tg b e))) → ok (k212 s) Q) ?_ ?_
                    · intro s4 hs4
                      refine ok_nmr (nI (e + 1)) (nI_1 ..) ?_
                      refine ih2 _ _ ⟨e + 1, he2, rfl, ?_⟩ (by rw [nI_clamp (by omega), nI_clamp (by omega)]; omega)
                      rcases hs4 with ⟨rfl, g⟩ | ⟨rfl, g⟩
                      · exact Or.inl ⟨rfl, g⟩
                      · refine Or.inr ⟨rfl, g1, fun f hf hb => ?_⟩
                        by_cases q5 : f = e
                        · subst q5; exact g hb
                        · exact g2 f (by omega) hb
                    · intro k212 h212
                      refine ok_jn (fun k211 => (b.testBit e = false → ¬ Fr N cv (tg b e)) → ok (k211 ()) Q) (fun g => h212 0 (Or.inr ⟨rfl, g⟩)) ?_
                      intro k211 h211
                      show ok (ck_if (((nI b >>> (nI e &&& 31)) &&& 1) = 0) (ck_in ((4096 * nI t) + (nI b ||| ((1 : Int32) <<< (nI e &&& 31)))) 16384 _) _) Q
                      have hbit := nI_bit0 (show b < 2 ^ 31 by omega) (show e < 31 by omega)
                      refine ok_if (fun q4 => ?_) (fun q4 => ?_)
                      · have hb := hbit.mp q4
                        have htl : tg b e < 2 ^ N := tg_lt (by omega) he2
                        have hgt := tg_gt hb
                        rw [show vj (b + 1) = nI b from rfl, nI_31 (by omega), nI_shl (by omega), nI_or, tg_or hb, ix4096]
                        refine ok_in (vp_in_nI (by omega) (by decide)) ?_
                        rw [nI_clamp (by omega)]
                        refine ok_if (fun q5 => ?_) (fun q5 => ?_)
                        · have hf : Fr N cv (tg b e) := by
                            apply Classical.byContradiction
                            intro hc
                            rw [(h1 _ (by omega) htl).2 hc] at q5
                            revert q5; decide
                          exact h212 1 (Or.inl ⟨rfl, Fr_sub (sub_up hb) hf⟩)
                        · exact h211 (fun _ hc => q5 ((h1 _ (by omega) htl).1 hc))
                      · exact h211 (fun hb => absurd (hbit.mpr hb) q4)
              · rcases hs with ⟨rfl, g⟩ | ⟨rfl, g⟩
                · exact Or.inl ⟨rfl, (Fr_rec (by omega)).mpr (Or.inl g)⟩
                · exact Or.inr ⟨rfl, g, fun f hf => absurd hf (by omega)⟩
          · intro k156 h156
            refine ok_jn (fun k155 => cv b = 0 → ok (k155 ()) Q) (fun g => h156 0 (Or.inr ⟨rfl, g⟩)) ?_
            intro k155 h155
            rw [show vj (b + 1) = nI b from rfl, nI_clamp (by omega), hsz b (by omega), ix4096]
            have := cn_le b
            refine ok_if (fun q2 => ?_) (fun q2 => ?_)
            · refine ok_in (vp_in_nI (by omega) (by decide)) ?_
              rw [nI_clamp (by omega)]
              refine ok_if (fun q3 => ?_) (fun q3 => ?_)
              · exact h155 ((hsg0 b (by omega)).mp q3)
              · exact h156 1 (Or.inl ⟨rfl, fun hc => q3 ((hsg0 b (by omega)).mpr hc)⟩)
            · exact h155 (hcv0 b (fun e => q2 (by rw [e])))
      · rw [← vj_sub, Int32.sub_add_cancel, nI_clamp (by omega)]; omega
  · intro k111 h111
    refine lo9_F (fun v f fr fc sm sg qn qm qd => ∃ k : Nat, k ≤ 4096 ∧ v = nI k ∧ f = fs N os cv k ∧ I qn qm qd ∧ (∀ j, j < k → os j < 2 ^ N → sg (4096 * t + os j) = if p = 0 then cv (os j) * fs N os cv 4096 else cv (os j)) ∧ (∀ q, (∀ S, S < 2 ^ N → q ≠ 4096 * t + S) → sg q = sg0 q)) (fun v _ _ _ _ _ _ _ _ => 4096 - v.toNatClampNeg) ?_ ⟨0, Nat.zero_le _, nI_0.symm, rfl, hI, fun j hj => absurd hj (by omega), fun _ _ => rfl⟩ (by omega)
    rintro kr v f fr fc sm sg qn qm qd ⟨k, hk, rfl, rfl, hIq, h1, h2⟩ ih
    refine ok_if (fun q => ?_) (fun q => ?_)
    · have e : k = 4096 := by
        have := (nI_leI (a := 4096) (by omega) (by omega)).mp q
        omega
      subst e
      refine h111 _ _ _ _ _ _ _ hIq (fun S hS => ?_) h2
      obtain ⟨j, j1, rfl⟩ := hsur S (by omega)
      exact h1 j j1 hS
    · have hlt : k < 4096 := by
        rcases Nat.lt_or_ge k 4096 with q1 | q1
        · exact q1
        · exact absurd ((nI_leI (a := 4096) (by omega) (by omega)).mpr q1) q
      obtain ⟨o1, o2⟩ := hord k hlt
      refine ok_in (vp_in_nI hlt (by decide)) ?_
      refine ok_nmr (nI (os k)) (by rw [nI_clamp (by omega), o1]) ?_
      refine ok_jn (fun k105 => ∀ (fr fc sm sg' qn qm : Nat → Int32) (qd : Nat → Nat → Int32), I qn qm qd → (os k < 2 ^ N → sg' = upd sg (4096 * t + os k) (if p = 0 then cv (os k) * fs N os cv 4096 else cv (os k))) → (¬ os k < 2 ^ N → sg' = sg) → ok (k105 (fs N os cv (k + 1)) fr fc sm sg' qn qm qd) Q) ?_ ?_
      · intro fr' fc' sm' sg' qn' qm' qd' a1 a2 a3
        refine ok_nmr (nI (k + 1)) (nI_1 ..) ?_
        refine ih _ _ _ _ _ _ _ _ _ ⟨k + 1, hlt, rfl, rfl, a1, fun j hj hjN => ?_, fun q hq => ?_⟩ (by rw [nI_clamp (by omega), nI_clamp (by omega)]; omega)
        · by_cases q2 : os k < 2 ^ N
          · rw [a2 q2]
            by_cases q3 : os j = os k
            · rw [q3, pk_us]
            · rw [pk_un (by omega)]
              refine h1 j ?_ hjN
              have : j ≠ k := fun e => q3 (by rw [e])
              omega
          · rw [a3 q2]
            refine h1 j ?_ hjN
            have : j ≠ k := fun e => q2 (by rw [← e]; exact hjN)
            omega
        · by_cases q2 : os k < 2 ^ N
          · rw [a2 q2, pk_un (hq _ q2)]; exact h2 q hq
          · rw [a3 q2]; exact h2 q hq
      · intro k105 h105
        refine ok_if (fun q2 => ?_) (fun q2 => ?_)
        · have hN2 : os k < 2 ^ N := (nI_ltI (by omega) (by omega)).mp q2
          refine ok_in (vp_in_nI o2 (by decide)) ?_
          refine ok_jn (fun k62 => ∀ (fr fc sm qn qm : Nat → Int32) (qd : Nat → Nat → Int32), I qn qm qd → ok (k62 (cv (os k)) fr fc sm qn qm qd) Q) ?_ ?_
          · intro fr' fc' sm' qn' qm' qd' a1
            refine ok_jn (fun k74 => ok (k74 (fs N os cv (k + 1))) Q) ?_ ?_
            · refine ok_jn (fun k103 => ok (k103 (if p = 0 then cv (os k) * fs N os cv 4096 else cv (os k))) Q) ?_ ?_
              · rw [ix4096]
                refine ok_in (vp_in_nI (by omega) (by decide)) ?_
                rw [nI_clamp (by omega)]
                have htv : vp_nar .byte ((if p = 0 then cv (os k) * fs N os cv 4096 else cv (os k))).toInt8.toInt32 = (if p = 0 then cv (os k) * fs N os cv 4096 else cv (os k)) := by
                  apply tv_nar
                  split
                  · exact tv_mul (hcv _) (fs_tv hcv _)
                  · exact hcv _
                rw [htv]
                exact h105 _ _ _ _ _ _ _ a1 (fun _ => rfl) (fun hc => absurd hN2 hc)
              · intro k103 h103
                refine ok_if (fun q3 => ?_) (fun q3 => ?_)
                · have p0 : p = 0 := (nI_le0 hp).mp q3
                  rw [if_pos p0, ← fs_at hlt hN2] at h103
                  exact h103
                · have p0 : ¬ p = 0 := fun e => q3 ((nI_le0 hp).mpr e)
                  rw [if_neg p0] at h103
                  exact h103
            · intro k74 h74
              simp only [fs] at h74
              rw [if_pos hN2] at h74
              refine ok_if (fun q3 => ?_) (fun q3 => ?_)
              · rw [if_pos q3] at h74; exact h74
              · rw [if_neg q3] at h74; exact h74
          · intro k62 h62
            rw [nI_clamp (by omega), hsz _ o2]
            have := cn_le (os k)
            refine ok_if (fun q3 => ?_) (fun q3 => ?_)
            · have hc : cn (os k) = R := (nI_eq (by omega) (by omega)).mp q3
              refine ok_b7 (hmin fr fc sm qn qm qd (os k) hIq hN2 hc) ?_
              rintro a1 a2 a3 a4 a5 a6 a7 ⟨e1, e2⟩
              dsimp only at e1 e2
              rw [e1]
              exact h62 _ _ _ _ _ _ e2
            · have hc : cn (os k) ≠ R := fun e => q3 (by rw [e])
              rw [hcv0 _ hc] at h62
              exact h62 _ _ _ _ _ _ hIq
        · have hN2 : ¬ os k < 2 ^ N := fun e => q2 ((nI_ltI (by omega) (by omega)).mpr e)
          have hf : fs N os cv (k + 1) = fs N os cv k := by simp only [fs]; rw [if_neg hN2]
          rw [hf] at h105
          exact h105 _ _ _ _ _ _ _ hIq (fun hc => absurd hc hN2) (fun _ => rfl)
