/-! the kinds of sets, by the rank function -/
def cp (N S : Nat) : Nat := 2 ^ N - (S + 1)
theorem cp_bit {N S : Nat} (hS : S < 2 ^ N) (i : Nat) : (cp N S).testBit i = (decide (i < N) && !S.testBit i) := Nat.testBit_two_pow_sub_succ hS i
theorem cp_lt {N S : Nat} (hS : S < 2 ^ N) : cp N S < 2 ^ N := by unfold cp; omega
theorem cp_cp {N S : Nat} (hS : S < 2 ^ N) : cp N (cp N S) = S := by unfold cp; omega
/-- rank functions -/
def RF (N R : Nat) (ρ : Nat → Nat) : Prop := (∀ S, S < 2 ^ N → ρ S ≤ cn S) ∧ (∀ S e, S < 2 ^ N → e < N → S.testBit e = false → ρ S ≤ ρ (tg S e) ∧ ρ (tg S e) ≤ ρ S + 1) ∧ (∀ S, S < 2 ^ N → ρ S ≤ R) ∧ ρ (cp N 0) = R
theorem IsRk_RF {N R : Nat} {cv : Nat → Int32} {ρ : Nat → Nat} (hN : N ≤ 12) (h : ∀ S, S < 2 ^ N → IsRk N cv S (ρ S)) (hcv0 : ∀ S, S < 2 ^ N → cn S ≠ R → cv S = 0) (hne : ∃ S, S < 2 ^ N ∧ cv S ≠ 0) : RF N R ρ := by
  have hb : ∀ T, T < 2 ^ N → cv T ≠ 0 → cn T = R := fun T h1 h2 => Classical.byContradiction (fun hc => h2 (hcv0 T h1 hc))
  have hle : ∀ S, S < 2 ^ N → ρ S ≤ R := by
    intro S hS
    obtain ⟨⟨I, i1, ⟨T, t1, t2, t3⟩, i3⟩, -⟩ := h S hS
    have := sub_cn t3
    have := hb T t1 t2
    omega
  refine ⟨fun S hS => ?_, fun S e hS he hbt => ?_, hle, ?_⟩
  · obtain ⟨⟨I, i1, i2, i3⟩, -⟩ := h S hS
    have := sub_cn i1
    omega
  · have htl := tg_lt hS he
    obtain ⟨⟨I, i1, i2, i3⟩, i4⟩ := h S hS
    obtain ⟨⟨J, j1, j2, j3⟩, j4⟩ := h _ htl
    constructor
    · have := j4 I (sub_tr i1 (sub_up hbt)) i2
      omega
    · by_cases q : J.testBit e = true
      · have hs : sub (tg J e) S := by
          intro x hx
          by_cases q2 : e = x
          · subst q2; rw [tg_self, q] at hx; cases hx
          · rw [tg_ne q2] at hx
            have := j1 x hx
            rwa [tg_ne q2] at this
        have h1 := i4 _ hs (Fr_sub (tg_sub q) j2)
        have h2 := cnt_tg (n := 12) (e := e) (by omega) J
        rw [if_pos q, if_pos q] at h2
        unfold cn at *
        omega
      · have hs : sub J S := by
          intro x hx
          have h1 := j1 x hx
          by_cases q2 : e = x
          · subst q2; exact absurd hx q
          · rwa [tg_ne q2] at h1
        have := i4 _ hs j2
        omega
  · obtain ⟨T, t1, t2⟩ := hne
    have hP := Nat.two_pow_pos N
    have h0 : cp N 0 < 2 ^ N := cp_lt hP
    have hs : sub T (cp N 0) := by
      intro x hx
      rw [cp_bit hP, Nat.zero_testBit]
      simp [lt_bit t1 hx]
    have h1 := (h _ h0).2 T hs ⟨T, t1, t2, sub_rfl T⟩
    have h2 := hb T t1 t2
    have h3 := hle _ h0
    omega
/-- bits that are all, or none -/
def alb (N : Nat) (p : Nat → Bool) : Bool := (List.range N).all p
theorem alb_iff {N : Nat} {p : Nat → Bool} : alb N p = true ↔ ∀ e, e < N → p e = true := by
  unfold alb
  rw [List.all_eq_true]
  exact ⟨fun h e he => h e (List.mem_range.mpr he), fun h e he => h e (List.mem_range.mp he)⟩
def flt (N : Nat) (ρ : Nat → Nat) (S : Nat) : Bool := alb N (fun e => S.testBit e || decide (ρ (tg S e) ≠ ρ S))
def Kb (N R : Nat) (ρ : Nat → Nat) (kind S : Nat) : Bool :=
  if kind = 0 then decide (ρ S = R) && decide (cn S = R)
  else if kind = 1 then decide (ρ S + 1 = cn S) && alb N (fun e => !S.testBit e || decide (ρ (tg S e) + 1 = cn S))
  else if kind = 2 then decide (ρ (cp N S) + 1 = R) && flt N ρ (cp N S)
  else flt N ρ S
theorem Kb_0 {N R S : Nat} {ρ : Nat → Nat} : Kb N R ρ 0 S = (decide (ρ S = R) && decide (cn S = R)) := rfl
theorem Kb_1 {N R S : Nat} {ρ : Nat → Nat} : Kb N R ρ 1 S = (decide (ρ S + 1 = cn S) && alb N (fun e => !S.testBit e || decide (ρ (tg S e) + 1 = cn S))) := rfl
theorem Kb_2 {N R S : Nat} {ρ : Nat → Nat} : Kb N R ρ 2 S = (decide (ρ (cp N S) + 1 = R) && flt N ρ (cp N S)) := rfl
theorem Kb_3 {N R S : Nat} {ρ : Nat → Nat} : Kb N R ρ 3 S = flt N ρ S := rfl
theorem vj_eq {a b : Nat} (ha : a < 2 ^ 30) (hb : b < 2 ^ 30) : nI a = vj b ↔ a + 1 = b := by
  cases b with
  | zero =>
    constructor
    · intro h
      have h1 := nI_pos' (n := a) (by omega)
      rw [h] at h1
      exact absurd h1 (by decide)
    · intro h; omega
  | succ b =>
    show nI a = nI b ↔ _
    rw [nI_eq (by omega) (by omega)]
    omega
theorem zb (b : Bool) : (if b = true then (1 : Int32) else 0) = 0 ∨ (if b = true then (1 : Int32) else 0) = 1 := by cases b <;> decide
theorem sfl_ok {rk : Nat → Int32} {ρ : Nat → Nat} {N S : Nat} (hN : N ≤ 12) (hS : S < 2 ^ N) (hrk : ∀ T, T < 2 ^ N → rk T = nI (ρ T) ∧ ρ T ≤ 12) : ok (f_S_isFlat (nI N) 4096 rk (nI S)) (fun r => r = if flt N ρ S = true then 1 else 0) := by
  have hM := p2_12 hN
  unfold f_S_isFlat
  refine lo1_F (fun v => ∃ e : Nat, e ≤ N ∧ v = nI e ∧ ∀ f, f < e → (S.testBit f || decide (ρ (tg S f) ≠ ρ S)) = true) (fun v => N - v.toNatClampNeg) ?_ ⟨0, Nat.zero_le _, nI_0.symm, fun f hf => absurd hf (by omega)⟩ (by omega)
  rintro kr v ⟨e, he, rfl, h1⟩ ih
  refine ok_if (fun q => ?_) (fun q => ?_)
  · have e1 : e = N := by
      have := (nI_leI (by omega) (by omega)).mp q
      omega
    subst e1
    refine ok_some ?_
    rw [if_pos (show flt e ρ S = true from alb_iff.mpr h1)]
  · have hlt : e < N := by
      rcases Nat.lt_or_ge e N with q1 | q1
      · exact q1
      · exact absurd ((nI_leI (by omega) (by omega)).mpr q1) q
    refine ok_nmr _ (nI_orb (by omega)) ?_
    refine ok_jn (fun k38 => (S.testBit e || decide (ρ (tg S e) ≠ ρ S)) = true → ok (k38 ()) (fun r => r = if flt N ρ S = true then 1 else 0)) ?_ ?_
    · intro h2
      refine ok_nmr (nI (e + 1)) (nI_1 ..) ?_
      refine ih _ ⟨e + 1, hlt, rfl, fun f hf => ?_⟩ (by rw [nI_clamp (by omega), nI_clamp (by omega)]; omega)
      by_cases q2 : f = e
      · subst q2; exact h2
      · exact h1 f (by omega)
    · intro k38 h38
      cases hb : S.testBit e with
      | true =>
        rw [if_pos rfl]
        exact ok_if (fun _ => h38 (by rw [hb]; rfl)) (fun q2 => absurd rfl q2)
      | false =>
        rw [if_neg (by decide)]
        have htl : tg S e < 2 ^ N := tg_lt hS hlt
        obtain ⟨r1, r2⟩ := hrk _ htl
        obtain ⟨r3, r4⟩ := hrk _ hS
        refine ok_if (fun q2 => absurd ((nI_eq (by omega) (by omega)).mp q2) tg_nself) (fun _ => ?_)
        refine ok_in (vp_in_nI (by omega) (by decide)) (ok_in (vp_in_nI (by omega) (by decide)) ?_)
        rw [nI_clamp (by omega), nI_clamp (by omega), r1, r3]
        refine ok_if (fun q2 => ?_) (fun q2 => ?_)
        · have h5 := (nI_eq (by omega) (by omega)).mp q2
          refine ok_some ?_
          rw [if_neg]
          intro hf
          have := alb_iff.mp hf e hlt
          rw [hb] at this
          simp [h5] at this
        · have h5 : ρ (tg S e) ≠ ρ S := fun h => q2 (by rw [h])
          exact h38 (by simp [h5])
theorem sci_ok {rk : Nat → Int32} {ρ : Nat → Nat} {N S : Nat} (hN : N ≤ 12) (hS : S < 2 ^ N) (hrk : ∀ T, T < 2 ^ N → rk T = nI (ρ T) ∧ ρ T ≤ 12) : ok (f_S_isCircuit (nI N) 4096 rk (nI S)) (fun r => r = if (decide (ρ S + 1 = cn S) && alb N (fun e => !S.testBit e || decide (ρ (tg S e) + 1 = cn S))) = true then 1 else 0) := by
  have hM := p2_12 hN
  have hc := cn_le S
  unfold f_S_isCircuit
  refine ok_b1 (bc_ok (by omega)) ?_
  rintro r1 rfl
  refine ok_in (vp_in_nI (by omega) (by decide)) ?_
  obtain ⟨r3, r4⟩ := hrk _ hS
  rw [nI_clamp (by omega), r3, vj_sub]
  refine ok_if (fun q0 => ?_) (fun q0 => ?_)
  · have h0 := (vj_eq (by omega) (by omega)).mp q0
    refine lo1_F (fun v => ∃ e : Nat, e ≤ N ∧ v = nI e ∧ ∀ f, f < e → (!S.testBit f || decide (ρ (tg S f) + 1 = cn S)) = true) (fun v => N - v.toNatClampNeg) ?_ ⟨0, Nat.zero_le _, nI_0.symm, fun f hf => absurd hf (by omega)⟩ (by omega)
    rintro kr v ⟨e, he, rfl, h1⟩ ih
    refine ok_if (fun q => ?_) (fun q => ?_)
    · have e1 : e = N := by
        have := (nI_leI (by omega) (by omega)).mp q
        omega
      subst e1
      refine ok_some ?_
      rw [if_pos]
      rw [alb_iff.mpr h1]; simp [h0]
    · have hlt : e < N := by
        rcases Nat.lt_or_ge e N with q1 | q1
        · exact q1
        · exact absurd ((nI_leI (by omega) (by omega)).mpr q1) q
      refine ok_nmr _ (nI_clr (by omega) (by omega)) ?_
      refine ok_jn (fun k59 => (!S.testBit e || decide (ρ (tg S e) + 1 = cn S)) = true → ok (k59 ()) (fun r => r = if (decide (ρ S + 1 = cn S) && alb N (fun e => !S.testBit e || decide (ρ (tg S e) + 1 = cn S))) = true then 1 else 0)) ?_ ?_
      · intro h2
        refine ok_nmr (nI (e + 1)) (nI_1 ..) ?_
        refine ih _ ⟨e + 1, hlt, rfl, fun f hf => ?_⟩ (by rw [nI_clamp (by omega), nI_clamp (by omega)]; omega)
        by_cases q2 : f = e
        · subst q2; exact h2
        · exact h1 f (by omega)
      · intro k59 h59
        cases hb : S.testBit e with
        | false =>
          rw [if_neg (by decide)]
          exact ok_if (fun _ => h59 (by rw [hb]; rfl)) (fun q2 => absurd rfl q2)
        | true =>
          rw [if_pos rfl]
          have htl : tg S e < 2 ^ N := tg_lt hS hlt
          obtain ⟨r1, r2⟩ := hrk _ htl
          refine ok_if (fun q2 => absurd ((nI_eq (by omega) (by omega)).mp q2) tg_nself) (fun _ => ?_)
          refine ok_in (vp_in_nI (by omega) (by decide)) ?_
          rw [nI_clamp (by omega), r1]
          refine ok_if (fun q2 => ?_) (fun q2 => ?_)
          · have h5 := (vj_eq (by omega) (by omega)).mp q2
            exact h59 (by simp [h5])
          · have h5 : ¬ ρ (tg S e) + 1 = cn S := fun h => q2 ((vj_eq (by omega) (by omega)).mpr h)
            refine ok_some ?_
            rw [if_neg]
            intro hf
            rw [Bool.and_eq_true] at hf
            have := alb_iff.mp hf.2 e hlt
            rw [hb] at this
            simp [h5] at this
  · have h0 : ¬ ρ S + 1 = cn S := fun h => q0 ((vj_eq (by omega) (by omega)).mpr h)
    refine ok_some ?_
    rw [if_neg]
    simp [h0]
theorem sok_ok {rk : Nat → Int32} {ρ : Nat → Nat} {N R kind S : Nat} (hN : N ≤ 12) (hR : R ≤ 12) (hS : S < 2 ^ N) (hkind : kind < 4) (hrk : ∀ T, T < 2 ^ N → rk T = nI (ρ T) ∧ ρ T ≤ 12) : ok (f_S_isOfKind (nI N) (nI R) 4096 rk (nI kind) (nI S)) (fun r => r = if Kb N R ρ kind S = true then 1 else 0) := by
  have hM := p2_12 hN
  have hc := cn_le S
  obtain ⟨r3, r4⟩ := hrk _ hS
  unfold f_S_isOfKind
  have hke : ∀ j, j < 4 → (nI kind = nI j ↔ kind = j) := fun j hj => nI_eq (by omega) (by omega)
  refine ok_if (fun q => ?_) (fun q => ?_)
  · have k0 : kind = 0 := (hke 0 (by decide)).mp q
    subst k0
    rw [Kb_0]
    refine ok_in (vp_in_nI (by omega) (by decide)) ?_
    rw [nI_clamp (by omega), r3]
    refine ok_if (fun q1 => ?_) (fun q1 => ?_)
    · have h1 := (nI_eq (by omega) (by omega)).mp q1
      refine ok_b1 (bc_ok (by omega)) ?_
      rintro r4 rfl
      refine ok_if (fun q2 => ?_) (fun q2 => ?_)
      · have h2 := (nI_eq (by omega) (by omega)).mp q2
        exact ok_some (by rw [if_pos]; simp [h1, h2])
      · have h2 : ¬ cn S = R := fun h => q2 (by rw [h])
        exact ok_some (by rw [if_neg]; simp [h2])
    · have h1 : ¬ ρ S = R := fun h => q1 (by rw [h])
      exact ok_some (by rw [if_neg]; simp [h1])
  · have k0 : kind ≠ 0 := fun h => q (by rw [h]; rfl)
    refine ok_if (fun q1 => ?_) (fun q1 => ?_)
    · have k1 : kind = 1 := (hke 1 (by decide)).mp q1
      subst k1
      rw [Kb_1]
      refine ok_b1 (sci_ok hN hS hrk) ?_
      rintro r8 rfl
      exact ok_z (zb _) (ok_some rfl)
    · have k1 : kind ≠ 1 := fun h => q1 (by rw [h]; rfl)
      refine ok_if (fun q2 => ?_) (fun q2 => ?_)
      · have k2 : kind = 2 := (hke 2 (by decide)).mp q2
        subst k2
        rw [Kb_2]
        have hcp := cp_lt hS
        have e1 : (((1 : Int32) <<< (nI N &&& 31)) - 1) - nI S = nI (cp N S) := by
          rw [nI_31 (by omega), nI_shl (by omega), nI_sub1 (Nat.two_pow_pos N), nI_subI (by omega)]
          unfold cp
          congr 1
          omega
        rw [e1]
        refine ok_b1 (Q1 := fun r => r = if (decide (ρ (cp N S) + 1 = R) && flt N ρ (cp N S)) = true then 1 else 0) ?_ ?_
        · unfold f_S_isHyperplane
          obtain ⟨r5, r6⟩ := hrk _ hcp
          refine ok_in (vp_in_nI (by omega) (by decide)) ?_
          rw [nI_clamp (by omega), r5, vj_sub]
          refine ok_if (fun q3 => ?_) (fun q3 => ?_)
          · have h1 := (vj_eq (by omega) (by omega)).mp q3
            refine ok_b1 (sfl_ok hN hcp hrk) ?_
            rintro r3 rfl
            cases hf : flt N ρ (cp N S) with
            | true => exact ok_if (fun q4 => absurd q4 (by decide)) (fun _ => ok_some (by rw [if_pos]; simp [h1]))
            | false => exact ok_if (fun _ => ok_some (by rw [if_neg]; simp)) (fun q4 => absurd rfl q4)
          · have h1 : ¬ ρ (cp N S) + 1 = R := fun h => q3 ((vj_eq (by omega) (by omega)).mpr h)
            exact ok_some (by rw [if_neg]; simp [h1])
        · rintro r12 rfl
          exact ok_z (zb _) (ok_some rfl)
      · have k2 : kind ≠ 2 := fun h => q2 (by rw [h]; rfl)
        have k3 : kind = 3 := by omega
        subst k3
        rw [Kb_3]
        refine ok_if (fun _ => ?_) (fun q3 => absurd rfl q3)
        refine ok_b1 (sfl_ok hN hS hrk) ?_
        rintro r16 rfl
        exact ok_z (zb _) (ok_some rfl)
