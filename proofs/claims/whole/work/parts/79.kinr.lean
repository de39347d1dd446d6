/-! the kinds of sets: the reference asks by free sets and the dual rank -/
theorem rr_ok {rk : Nat → Int32} {ρ : Nat → Nat} {N t S : Nat} (hN : N ≤ 12) (ht : t < 4) (hS : S < 2 ^ N) (hrk : ∀ T, T < 2 ^ N → rk (4096 * t + T) = nI (ρ T)) : ok (f_R_r 16384 rk (nI t) (nI S)) (fun r => r = nI (ρ S)) := by
  have hM := p2_12 hN
  unfold f_R_r
  rw [ix4096]
  refine ok_in (vp_in_nI (by omega) (by decide)) ?_
  rw [nI_clamp (by omega), hrk S hS]
  exact ok_some rfl
theorem wh_ok {els : Nat → Int32} {N t : Nat} (hN : N ≤ 12) (ht : t < 4) (hel : els t = nI N) : ok (f_R_whole 4 els (nI t)) (fun r => r = nI (2 ^ N - 1)) := by
  unfold f_R_whole
  refine ok_in (vp_in_nI ht (by decide)) ?_
  rw [nI_clamp (by omega), hel, nI_31 (by omega), nI_shl (by omega), nI_sub1 (Nat.two_pow_pos N)]
  exact ok_some rfl
theorem nI_cp {N S : Nat} (hN : N ≤ 12) (hS : S < 2 ^ N) : nI (2 ^ N - 1) &&& (nI S ^^^ (-1)) = nI (cp N S) := by
  have hM := p2_12 hN
  apply Int32.toBitVec_inj.mp
  rw [Int32.toBitVec_and, Int32.toBitVec_xor, nI_bv, nI_bv, nI_bv]
  have h1 : (-1 : Int32).toBitVec = BitVec.allOnes 32 := by decide
  rw [h1]
  apply BitVec.eq_of_getLsbD_eq
  intro i hi
  rw [BitVec.getLsbD_and, BitVec.getLsbD_xor, BitVec.getLsbD_allOnes, BitVec.getLsbD_ofNat, BitVec.getLsbD_ofNat, BitVec.getLsbD_ofNat, cp_bit hS, Nat.testBit_two_pow_sub_one]
  simp [hi]
theorem cn_cp {N S : Nat} (hN : N ≤ 12) (hS : S < 2 ^ N) : cn S + cn (cp N S) = N := by
  rw [← cn_N hS hN, ← cn_N (cp_lt hS) hN]
  have h1 := cnt_split N (fun _ => true) S.testBit
  have c6 : ∀ M, cnt M (fun _ => true) = M := by
    intro M
    induction M with
    | zero => rfl
    | succ M ih => simp only [cnt]; rw [ih]; simp
  rw [c6] at h1
  rw [cnt_congr (f := (cp N S).testBit) (g := fun e => true && !S.testBit e) (fun e he => by rw [cp_bit hS]; simp [he])]
  simpa using h1
theorem tg_cp {N S e : Nat} (hS : S < 2 ^ N) (he : e < N) : cp N (tg S e) = tg (cp N S) e := by
  refine bit_ext (cp_lt (tg_lt hS he)) (tg_lt (cp_lt hS) he) (fun x hx => ?_)
  rw [cp_bit (tg_lt hS he), tg_bit, tg_bit, cp_bit hS]
  by_cases q : e = x
  · subst q; simp [he]
  · simp [q]
theorem du_ok {rk szs rks els : Nat → Int32} {ρ : Nat → Nat} {N R t S : Nat} (hN : N ≤ 12) (hR : R ≤ N) (ht : t < 4) (hS : S < 2 ^ N) (hrk : ∀ T, T < 2 ^ N → rk (4096 * t + T) = nI (ρ T)) (hsz : ∀ S, S < 4096 → szs S = nI (cn S)) (hrks : rks t = nI R) (hel : els t = nI N) (hρ : RF N R ρ) : ok (f_R_dualRank 16384 rk 4096 szs 4 rks 4 els (nI t) (nI S)) (fun r => r = nI (cn S + ρ (cp N S) - R)) := by
  have hM := p2_12 hN
  have hc := cn_le S
  unfold f_R_dualRank
  refine ok_in (vp_in_nI (by omega) (by decide)) (ok_in (vp_in_nI ht (by decide)) ?_)
  refine ok_b1 (wh_ok hN ht hel) ?_
  rintro r3 rfl
  rw [nI_cp hN hS]
  refine ok_b1 (rr_ok hN ht (cp_lt hS) hrk) ?_
  rintro r5 rfl
  rw [nI_clamp (by omega), nI_clamp (by omega), hsz S (by omega), hrks]
  -- R ≤ cn S + ρ (cp S)
  have key : ∀ k T, T < 2 ^ N → cn T = N - k → k ≤ N → R ≤ k + ρ T := by
    intro k
    induction k with
    | zero =>
      intro T hT hcT _
      have h1 := cn_cp hN hT
      have h2 : cp N T = 0 := cn_0 (by have := cp_lt hT; omega) (by omega)
      have h3 : T = cp N 0 := by rw [← h2, cp_cp hT]
      rw [h3, hρ.2.2.2]; omega
    | succ k ih =>
      intro T hT hcT hk
      obtain ⟨e, e1, e2, e3⟩ : ∃ e, e < N ∧ T.testBit e = false ∧ True := by
        have h1 := cn_N hT hN
        have h2 : cnt N T.testBit < cnt N (fun _ => true) := by
          have c6 : ∀ M, cnt M (fun _ => true) = M := by
            intro M
            induction M with
            | zero => rfl
            | succ M ih => simp only [cnt]; rw [ih]; simp
          rw [c6]; omega
        obtain ⟨e, e1, e2, e3⟩ := cnt_ex h2
        exact ⟨e, e1, e3, trivial⟩
      have h1 := hρ.2.1 T e hT e1 e2
      have h2 := cnt_tg (n := 12) (e := e) (by omega) T
      rw [if_neg (by rw [e2]; decide), if_neg (by rw [e2]; decide)] at h2
      have h3 := ih (tg T e) (tg_lt hT e1) (by unfold cn at *; omega) (by omega)
      omega
  have h1 := cn_cp hN hS
  have h2 := key (cn S) (cp N S) (cp_lt hS) (by omega) (by omega)
  refine ok_some ?_
  have e1 : nI (cn S) + nI (ρ (cp N S)) = nI (cn S + ρ (cp N S)) := nI_add _ _
  have h3 := hρ.1 _ (cp_lt hS)
  rw [show nI (cn S) - nI R + nI (ρ (cp N S)) = nI (cn S) + nI (ρ (cp N S)) - nI R by rw [Int32.sub_eq_add_neg, Int32.sub_eq_add_neg, Int32.add_assoc, Int32.add_comm (-nI R), ← Int32.add_assoc], e1, nI_subI (by omega)]
theorem rfl_ok {rk els : Nat → Int32} {ρ : Nat → Nat} {N R t S : Nat} (hN : N ≤ 12) (ht : t < 4) (hS : S < 2 ^ N) (hrk : ∀ T, T < 2 ^ N → rk (4096 * t + T) = nI (ρ T)) (hel : els t = nI N) (hρ : RF N R ρ) (hR : R ≤ 12) : ok (f_R_isFlat 16384 rk 4 els (nI t) (nI S)) (fun r => r = if flt N ρ S = true then 1 else 0) := by
  have hM := p2_12 hN
  unfold f_R_isFlat
  refine lo2_F (fun v x => ∃ e : Nat, e ≤ N ∧ v = nI e ∧ (x = 1 ∧ (∀ f, f < e → (S.testBit f || decide (ρ (tg S f) ≠ ρ S)) = true) ∨ x = 0 ∧ flt N ρ S = false)) (fun v _ => N - v.toNatClampNeg) ?_ ⟨0, Nat.zero_le _, nI_0.symm, Or.inl ⟨rfl, fun f hf => absurd hf (by omega)⟩⟩ (by omega)
  rintro kr v x ⟨e, he, rfl, hx⟩ ih
  refine ok_in (vp_in_nI ht (by decide)) ?_
  rw [nI_clamp (by omega), hel]
  refine ok_if (fun q => ?_) (fun q => ?_)
  · have e1 : e = N := by
      have := (nI_leI (by omega) (by omega)).mp q
      omega
    subst e1
    rcases hx with ⟨rfl, hx⟩ | ⟨rfl, hx⟩
    · exact ok_z (Or.inr rfl) (ok_some (by rw [if_pos (show flt e ρ S = true from alb_iff.mpr hx)]))
    · exact ok_z (Or.inl rfl) (ok_some (by rw [hx]; rfl))
  · have hlt : e < N := by
      rcases Nat.lt_or_ge e N with q1 | q1
      · exact q1
      · exact absurd ((nI_leI (by omega) (by omega)).mpr q1) q
    rcases hx with ⟨rfl, hx⟩ | ⟨rfl, hx⟩
    · refine ok_if (fun q2 => absurd q2 (by decide)) (fun _ => ?_)
      refine ok_jn (fun k55 => ∀ y : Int32, (y = 1 ∧ (S.testBit e || decide (ρ (tg S e) ≠ ρ S)) = true ∨ y = 0 ∧ flt N ρ S = false) → ok (k55 y) (fun r => r = if flt N ρ S = true then 1 else 0)) ?_ ?_
      · intro y hy
        refine ok_nmr (nI (e + 1)) (nI_1 ..) ?_
        refine ih _ _ ⟨e + 1, hlt, rfl, ?_⟩ (by rw [nI_clamp (by omega), nI_clamp (by omega)]; omega)
        rcases hy with ⟨rfl, hy⟩ | ⟨rfl, hy⟩
        · refine Or.inl ⟨rfl, fun f hf => ?_⟩
          by_cases q2 : f = e
          · subst q2; exact hy
          · exact hx f (by omega)
        · exact Or.inr ⟨rfl, hy⟩
      · intro k55 h55
        refine ok_jn (fun k50 => (S.testBit e || decide (ρ (tg S e) ≠ ρ S)) = true → ok (k50 ()) (fun r => r = if flt N ρ S = true then 1 else 0)) (fun h => h55 1 (Or.inl ⟨rfl, h⟩)) ?_
        intro k50 h50
        have hbit := nI_bit (show S < 2 ^ 31 by omega) (show e < 31 by omega)
        refine ok_if (fun q2 => ?_) (fun q2 => ?_)
        · exact h50 (by rw [hbit.mp q2]; rfl)
        · have hb : S.testBit e = false := by
            cases q3 : S.testBit e with
            | false => rfl
            | true => exact absurd (hbit.mpr q3) q2
          have htl := tg_lt hS hlt
          rw [nI_orb (by omega), if_neg (by rw [hb]; decide)]
          refine ok_b1 (rr_ok hN ht htl hrk) ?_
          rintro r11 rfl
          refine ok_b1 (rr_ok hN ht hS hrk) ?_
          rintro r13 rfl
          have h1 := hρ.2.1 S e hS hlt hb
          have h2 := hρ.2.2.1 S hS
          refine ok_if (fun q3 => ?_) (fun q3 => ?_)
          · have h3 := (nI_leI (by omega) (by omega)).mp q3
            refine h55 0 (Or.inr ⟨rfl, ?_⟩)
            cases hf : flt N ρ S with
            | false => rfl
            | true =>
              have := alb_iff.mp hf e hlt
              rw [hb] at this
              simp at this
              omega
          · have h3 : ¬ ρ (tg S e) ≤ ρ S := fun h => q3 ((nI_leI (by omega) (by omega)).mpr h)
            exact h50 (by simp; right; omega)
    · exact ok_if (fun _ => ok_z (Or.inl rfl) (ok_some (by rw [hx]; rfl))) (fun q2 => absurd rfl q2)
/-- isCircuit of the reference, over a function f of the sets -/
theorem rci_ok {rk szs rks els : Nat → Int32} {ρ f : Nat → Nat} {N R t S d : Nat} (hN : N ≤ 12) (hR : R ≤ N) (ht : t < 4) (hd : d < 2) (hS : S < 2 ^ N) (hrk : ∀ T, T < 2 ^ N → rk (4096 * t + T) = nI (ρ T)) (hsz : ∀ S, S < 4096 → szs S = nI (cn S)) (hrks : rks t = nI R) (hel : els t = nI N) (hρ : RF N R ρ) (hf : ∀ T, T < 2 ^ N → f T = if d = 0 then ρ T else cn T + ρ (cp N T) - R) : ok (f_R_isCircuit 16384 rk 4096 szs 4 rks 4 els (nI t) (nI S) (nI d)) (fun r => r = if (decide (f S < cn S) && alb N (fun e => !S.testBit e || decide (f (tg S e) = cn (tg S e)))) = true then 1 else 0) := by
  have hM := p2_12 hN
  have hc := cn_le S
  have hfb : ∀ T, T < 2 ^ N → f T ≤ 12 := by
    intro T hT
    have h1 := hρ.1 T hT
    have h2 := cn_le T
    have h3 := hρ.2.2.1 _ (cp_lt hT)
    rw [hf T hT]
    split <;> omega
  have hd0 : nI d = 0 ↔ d = 0 := nI_eq0 (by omega)
  have hval : ∀ (T : Nat) (R' : Type) (Q : R' → Prop) (k : Int32 → Option R'), T < 2 ^ N → ok (k (nI (f T))) Q → ok (ck_if (nI d = 0) (ck_b1 (f_R_r 16384 rk (nI t) (nI T)) <| fun r => k r) (ck_b1 (f_R_dualRank 16384 rk 4096 szs 4 rks 4 els (nI t) (nI T)) <| fun r => k r)) Q := by
    intro T R' Q k hT hk
    rw [hf T hT] at hk
    refine ok_if (fun q => ?_) (fun q => ?_)
    · rw [if_pos (hd0.mp q)] at hk
      refine ok_b1 (rr_ok hN ht hT hrk) ?_
      rintro r rfl
      exact hk
    · rw [if_neg (fun h => q (hd0.mpr h))] at hk
      refine ok_b1 (du_ok hN hR ht hT hrk hsz hrks hel hρ) ?_
      rintro r rfl
      exact hk
  unfold f_R_isCircuit
  refine ok_jn (fun k19 => ok (k19 (nI (f S))) (fun r => r = if (decide (f S < cn S) && alb N (fun e => !S.testBit e || decide (f (tg S e) = cn (tg S e)))) = true then 1 else 0)) ?_ (fun k19 h19 => hval S _ _ k19 hS h19)
  refine ok_in (vp_in_nI (by omega) (by decide)) ?_
  rw [nI_clamp (n := S) (by omega), hsz S (by omega)]
  have hfS := hfb S hS
  refine ok_jn (fun k33 => ∀ x : Int32, (x = 1 ∧ f S < cn S ∨ x = 0 ∧ ¬ f S < cn S) → ok (k33 x) (fun r => r = if (decide (f S < cn S) && alb N (fun e => !S.testBit e || decide (f (tg S e) = cn (tg S e)))) = true then 1 else 0)) ?_ ?_
  · intro x0 hx0
    refine lo2_F (fun v x => ∃ e : Nat, e ≤ N ∧ v = nI e ∧ (x = 1 ∧ f S < cn S ∧ (∀ g, g < e → (!S.testBit g || decide (f (tg S g) = cn (tg S g))) = true) ∨ x = 0 ∧ (decide (f S < cn S) && alb N (fun e => !S.testBit e || decide (f (tg S e) = cn (tg S e)))) = false)) (fun v _ => N - v.toNatClampNeg) ?_ ⟨0, Nat.zero_le _, nI_0.symm, ?_⟩ (by omega)
    · rintro kr v x ⟨e, he, rfl, hx⟩ ih
      refine ok_in (vp_in_nI ht (by decide)) ?_
      rw [nI_clamp (by omega), hel]
      refine ok_if (fun q => ?_) (fun q => ?_)
      · have e1 : e = N := by
          have := (nI_leI (by omega) (by omega)).mp q
          omega
        subst e1
        rcases hx with ⟨rfl, hx1, hx2⟩ | ⟨rfl, hx⟩
        · exact ok_z (Or.inr rfl) (ok_some (by rw [if_pos]; rw [alb_iff.mpr hx2]; simp [hx1]))
        · exact ok_z (Or.inl rfl) (ok_some (by rw [hx]; rfl))
      · have hlt : e < N := by
          rcases Nat.lt_or_ge e N with q1 | q1
          · exact q1
          · exact absurd ((nI_leI (by omega) (by omega)).mpr q1) q
        rcases hx with ⟨rfl, hx1, hx2⟩ | ⟨rfl, hx⟩
        · refine ok_if (fun q2 => absurd q2 (by decide)) (fun _ => ?_)
          refine ok_jn (fun k110 => ∀ y : Int32, (y = 1 ∧ (!S.testBit e || decide (f (tg S e) = cn (tg S e))) = true ∨ y = 0 ∧ (decide (f S < cn S) && alb N (fun e => !S.testBit e || decide (f (tg S e) = cn (tg S e)))) = false) → ok (k110 y) (fun r => r = if (decide (f S < cn S) && alb N (fun e => !S.testBit e || decide (f (tg S e) = cn (tg S e)))) = true then 1 else 0)) ?_ ?_
          · intro y hy
            refine ok_nmr (nI (e + 1)) (nI_1 ..) ?_
            refine ih _ _ ⟨e + 1, hlt, rfl, ?_⟩ (by rw [nI_clamp (by omega), nI_clamp (by omega)]; omega)
            rcases hy with ⟨rfl, hy⟩ | ⟨rfl, hy⟩
            · refine Or.inl ⟨rfl, hx1, fun g hg => ?_⟩
              by_cases q2 : g = e
              · subst q2; exact hy
              · exact hx2 g (by omega)
            · exact Or.inr ⟨rfl, hy⟩
          · intro k110 h110
            have hbit := nI_bit (show S < 2 ^ 31 by omega) (show e < 31 by omega)
            refine ok_if (fun q2 => ?_) (fun q2 => ?_)
            · have hb := hbit.mp q2
              have htl := tg_lt hS hlt
              refine ok_nmr (nI (tg S e)) (by rw [nI_31 (by omega), nI_shl (by omega), nI_xor]; rfl) ?_
              refine ok_jn (fun k93 => ok (k93 (nI (f (tg S e)))) (fun r => r = if (decide (f S < cn S) && alb N (fun e => !S.testBit e || decide (f (tg S e) = cn (tg S e)))) = true then 1 else 0)) ?_ (fun k93 h93 => hval (tg S e) _ _ k93 htl h93)
              refine ok_in (vp_in_nI (by omega) (by decide)) ?_
              rw [nI_clamp (by omega), hsz _ (by omega)]
              have h1 := hfb _ htl
              have h2 := cn_le (tg S e)
              refine ok_jn (fun k108 => ∀ y : Int32, (y = 1 ∧ (!S.testBit e || decide (f (tg S e) = cn (tg S e))) = true ∨ y = 0 ∧ (decide (f S < cn S) && alb N (fun e => !S.testBit e || decide (f (tg S e) = cn (tg S e)))) = false) → ok (k108 y) (fun r => r = if (decide (f S < cn S) && alb N (fun e => !S.testBit e || decide (f (tg S e) = cn (tg S e)))) = true then 1 else 0)) (fun y hy => h110 y hy) ?_
              intro k108 h108
              refine ok_if (fun q3 => ?_) (fun q3 => ?_)
              · have h3 := (nI_eq (by omega) (by omega)).mp q3
                exact h108 1 (Or.inl ⟨rfl, by simp [h3]⟩)
              · have h3 : ¬ f (tg S e) = cn (tg S e) := fun h => q3 (by rw [h])
                refine h108 0 (Or.inr ⟨rfl, ?_⟩)
                cases ha : alb N (fun e => !S.testBit e || decide (f (tg S e) = cn (tg S e))) with
                | false => simp
                | true =>
                  have := alb_iff.mp ha e hlt
                  rw [hb] at this
                  simp [h3] at this
            · have hb : S.testBit e = false := by
                cases q3 : S.testBit e with
                | false => rfl
                | true => exact absurd (hbit.mpr q3) q2
              exact h110 1 (Or.inl ⟨rfl, by rw [hb]; rfl⟩)
        · exact ok_if (fun _ => ok_z (Or.inl rfl) (ok_some (by rw [hx]; rfl))) (fun q2 => absurd rfl q2)
    · rcases hx0 with ⟨rfl, h⟩ | ⟨rfl, h⟩
      · exact Or.inl ⟨rfl, h, fun g hg => absurd hg (by omega)⟩
      · exact Or.inr ⟨rfl, by simp [h]⟩
  · intro k33 h33
    refine ok_if (fun q => ?_) (fun q => ?_)
    · have := (nI_leI (by omega) (by omega)).mp q
      exact h33 0 (Or.inr ⟨rfl, by omega⟩)
    · have : ¬ cn S ≤ f S := fun h => q ((nI_leI (by omega) (by omega)).mpr h)
      exact h33 1 (Or.inl ⟨rfl, by omega⟩)
