theorem Kb_c1 {N R S : Nat} {ρ : Nat → Nat} (hN : N ≤ 12) (hS : S < 2 ^ N) (hρ : RF N R ρ) : (decide (ρ S < cn S) && alb N (fun e => !S.testBit e || decide (ρ (tg S e) = cn (tg S e)))) = Kb N R ρ 1 S := by
  rw [Kb_1, Bool.eq_iff_iff, Bool.and_eq_true, Bool.and_eq_true, alb_iff, alb_iff]
  have hex : 0 < cn S → ∃ e, e < N ∧ S.testBit e = true := by
    intro h
    have hne : S ≠ 0 := by intro h0; rw [h0] at h; exact absurd h (by decide)
    obtain ⟨e, he⟩ := Nat.exists_testBit_of_ne_zero hne
    exact ⟨e, lt_bit hS he, he⟩
  have hstep : ∀ e, e < N → S.testBit e = true → cn (tg S e) + 1 = cn S ∧ ρ (tg S e) ≤ ρ S := by
    intro e he hb
    have h1 := tg_cn hS hN he hb
    have h2 := hρ.2.1 (tg S e) e (tg_lt hS he) he (by rw [tg_self, hb]; rfl)
    rw [tg_tg] at h2
    exact ⟨h1, h2.1⟩
  constructor
  · rintro ⟨h1, h2⟩
    have h1 := of_decide_eq_true h1
    obtain ⟨e, e1, e2⟩ := hex (by omega)
    have h3 := h2 e e1
    rw [e2] at h3
    simp at h3
    have h4 := hstep e e1 e2
    refine ⟨by simp; omega, fun g hg => ?_⟩
    cases hb : S.testBit g with
    | false => rfl
    | true =>
      have h5 := h2 g hg
      rw [hb] at h5
      simp at h5
      have h6 := hstep g hg hb
      simp
      omega
  · rintro ⟨h1, h2⟩
    have h1 := of_decide_eq_true h1
    refine ⟨by simp; omega, fun g hg => ?_⟩
    cases hb : S.testBit g with
    | false => rfl
    | true =>
      have h5 := h2 g hg
      rw [hb] at h5
      simp at h5
      have h6 := hstep g hg hb
      simp
      omega
theorem Kb_c2 {N R S : Nat} {ρ : Nat → Nat} (hN : N ≤ 12) (hR : R ≤ N) (hS : S < 2 ^ N) (hρ : RF N R ρ) (hlow : ∀ T, T < 2 ^ N → R ≤ cn T + ρ (cp N T)) : (decide (cn S + ρ (cp N S) - R < cn S) && alb N (fun e => !S.testBit e || decide (cn (tg S e) + ρ (cp N (tg S e)) - R = cn (tg S e)))) = Kb N R ρ 2 S := by
  rw [Kb_2, Bool.eq_iff_iff, Bool.and_eq_true, Bool.and_eq_true, alb_iff]
  unfold flt
  rw [alb_iff]
  have hcp := cp_lt hS
  have hl := hlow S hS
  have hcb : ∀ e, e < N → (cp N S).testBit e = !S.testBit e := fun e he => by rw [cp_bit hS]; simp [he]
  have hstep : ∀ e, e < N → S.testBit e = true → ρ (cp N S) ≤ ρ (tg (cp N S) e) ∧ ρ (tg (cp N S) e) ≤ ρ (cp N S) + 1 ∧ ρ (tg (cp N S) e) ≤ R ∧ R ≤ cn (tg S e) + ρ (tg (cp N S) e) := by
    intro e he hb
    have h1 := hρ.2.1 (cp N S) e hcp he (by rw [hcb e he, hb]; rfl)
    have h2 := hρ.2.2.1 _ (tg_lt hcp he)
    have h3 := hlow _ (tg_lt hS he)
    rw [tg_cp hS he] at h3
    exact ⟨h1.1, h1.2, h2, h3⟩
  constructor
  · rintro ⟨h1, h2⟩
    have h1 := of_decide_eq_true h1
    have hne : S ≠ 0 := by
      intro h0
      rw [h0, hρ.2.2.2] at h1
      have : cn 0 = 0 := by decide
      omega
    obtain ⟨e, he⟩ := Nat.exists_testBit_of_ne_zero hne
    have heN := lt_bit hS he
    have h3 := h2 e heN
    rw [he, tg_cp hS heN] at h3
    simp at h3
    have h4 := hstep e heN he
    refine ⟨by simp; omega, fun g hg => ?_⟩
    rw [hcb g hg]
    cases hb : S.testBit g with
    | false => rfl
    | true =>
      have h5 := h2 g hg
      rw [hb, tg_cp hS hg] at h5
      simp at h5
      have h6 := hstep g hg hb
      simp
      omega
  · rintro ⟨h1, h2⟩
    have h1 := of_decide_eq_true h1
    refine ⟨by simp; omega, fun g hg => ?_⟩
    cases hb : S.testBit g with
    | false => rfl
    | true =>
      have h5 := h2 g hg
      rw [hcb g hg, hb] at h5
      simp at h5
      have h6 := hstep g hg hb
      rw [tg_cp hS hg]
      simp
      omega
theorem RF_low {N R : Nat} {ρ : Nat → Nat} (hN : N ≤ 12) (hρ : RF N R ρ) : ∀ T, T < 2 ^ N → R ≤ cn T + ρ (cp N T) := by
  have key : ∀ k T, T < 2 ^ N → cn T = N - k → k ≤ N → R ≤ k + ρ T := by
    intro k
    induction k with
    | zero =>
      intro T hT hcT _
      have h1 := cn_cp hN hT
      have h2 : cp N T = 0 := cn_0 (by have := cp_lt hT; have := p2_12 hN; omega) (by omega)
      have h3 : T = cp N 0 := by rw [← h2, cp_cp hT]
      rw [h3, hρ.2.2.2]; omega
    | succ k ih =>
      intro T hT hcT hk
      obtain ⟨e, e1, e2⟩ : ∃ e, e < N ∧ T.testBit e = false := by
        have h1 := cn_N hT hN
        have h2 : cnt N T.testBit < cnt N (fun _ => true) := by
          have c6 : ∀ M, cnt M (fun _ => true) = M := by
            intro M
            induction M with
            | zero => rfl
            | succ M ih => simp only [cnt]; rw [ih]; simp
          rw [c6]; omega
        obtain ⟨e, e1, e2, e3⟩ := cnt_ex h2
        exact ⟨e, e1, e3⟩
      have h1 := hρ.2.1 T e hT e1 e2
      have h2 := cnt_tg (n := 12) (e := e) (by omega) T
      rw [if_neg (by rw [e2]; decide), if_neg (by rw [e2]; decide)] at h2
      have h3 := ih (tg T e) (tg_lt hT e1) (by unfold cn at *; omega) (by omega)
      omega
  intro T hT
  have h1 := cn_cp hN hT
  exact key (cn T) (cp N T) (cp_lt hT) (by omega) (by omega)
theorem rof_ok {rk szs rks els : Nat → Int32} {ρ : Nat → Nat} {N R t kind S : Nat} (hN : N ≤ 12) (hR : R ≤ N) (ht : t < 4) (hkind : kind < 4) (hS : S < 2 ^ N) (hrk : ∀ T, T < 2 ^ N → rk (4096 * t + T) = nI (ρ T)) (hsz : ∀ S, S < 4096 → szs S = nI (cn S)) (hrks : rks t = nI R) (hel : els t = nI N) (hρ : RF N R ρ) : ok (f_R_isOf 16384 rk 4096 szs 4 rks 4 els (nI t) (nI kind) (nI S)) (fun r => r = if Kb N R ρ kind S = true then 1 else 0) := by
  have hM := p2_12 hN
  have hc := cn_le S
  have hke : ∀ j, j < 4 → (nI kind = nI j ↔ kind = j) := fun j hj => nI_eq (by omega) (by omega)
  unfold f_R_isOf
  refine ok_if (fun q => ?_) (fun q => ?_)
  · have k0 : kind = 0 := (hke 0 (by decide)).mp q
    subst k0
    rw [Kb_0]
    refine ok_in (vp_in_nI (by omega) (by decide)) (ok_in (vp_in_nI ht (by decide)) ?_)
    rw [nI_clamp (by omega), nI_clamp (by omega), hsz S (by omega), hrks]
    have h9 := hρ.2.2.1 S hS
    refine ok_if (fun q1 => ?_) (fun q1 => ?_)
    · have h1 := (nI_eq (by omega) (by omega)).mp q1
      refine ok_b1 (Q1 := fun r => r = if ρ S = cn S then 1 else 0) ?_ ?_
      · unfold f_R_isFree
        refine ok_b1 (rr_ok hN ht hS hrk) ?_
        rintro r1 rfl
        refine ok_in (vp_in_nI (by omega) (by decide)) ?_
        rw [nI_clamp (by omega), hsz S (by omega)]
        refine ok_if (fun q2 => ?_) (fun q2 => ?_)
        · have h2 := (nI_eq (by omega) (by omega)).mp q2
          exact ok_some (by rw [if_pos h2])
        · have h2 : ¬ ρ S = cn S := fun h => q2 (by rw [h])
          exact ok_some (by rw [if_neg h2])
      · rintro r14 rfl
        by_cases h2 : ρ S = cn S
        · rw [if_pos h2]
          exact ok_if (fun q2 => absurd q2 (by decide)) (fun _ => ok_some (by rw [if_pos]; simp [h1]; omega))
        · rw [if_neg h2]
          exact ok_if (fun _ => ok_some (by rw [if_neg]; simp [h1]; omega)) (fun q2 => absurd rfl q2)
    · have h1 : ¬ cn S = R := fun h => q1 (by rw [h])
      exact ok_some (by rw [if_neg]; simp [h1])
  · have k0 : kind ≠ 0 := fun h => q (by rw [h]; rfl)
    refine ok_if (fun q1 => ?_) (fun q1 => ?_)
    · have k3 : kind = 3 := (hke 3 (by decide)).mp q1
      subst k3
      rw [Kb_3]
      refine ok_b1 (rfl_ok hN ht hS hrk hel hρ (by omega)) ?_
      rintro r8 rfl
      exact ok_z (zb _) (ok_some rfl)
    · have k3 : kind ≠ 3 := fun h => q1 (by rw [h]; rfl)
      refine ok_jn (fun k63 => ∀ d : Nat, d < 2 → (d = 0 → kind = 1) → (d = 1 → kind = 2) → ok (k63 (nI d)) (fun r => r = if Kb N R ρ kind S = true then 1 else 0)) ?_ ?_
      · intro d hd hd0 hd1
        refine ok_b1 (rci_ok (f := fun T => if d = 0 then ρ T else cn T + ρ (cp N T) - R) hN hR ht hd hS hrk hsz hrks hel hρ (fun T _ => rfl)) ?_
        rintro r4 rfl
        refine ok_z (zb _) (ok_some ?_)
        by_cases h0 : d = 0
        · have hk := hd0 h0
          subst hk
          rw [← Kb_c1 hN hS hρ]
          simp only [h0, if_pos]
        · have hk := hd1 (by omega)
          subst hk
          rw [← Kb_c2 hN hR hS hρ (RF_low hN hρ)]
          simp only [if_neg h0]
      · intro k63 h63
        refine ok_if (fun q2 => ?_) (fun q2 => ?_)
        · have k2 : kind = 2 := (hke 2 (by decide)).mp q2
          exact h63 1 (by decide) (fun h => absurd h (by decide)) (fun _ => k2)
        · have k2 : kind ≠ 2 := fun h => q2 (by rw [h]; rfl)
          exact h63 0 (by decide) (fun _ => by omega) (fun h => absurd h (by decide))
/-! counting along an order -/
theorem cnt_enum (M : Nat) (f : Nat → Bool) : ∃ t : Nat → Nat, (∀ i, i < cnt M f → t i < M ∧ f (t i) = true ∧ cnt (t i) f = i) ∧ ∀ i j, i < j → j < cnt M f → t i < t j := by
  induction M with
  | zero => exact ⟨fun _ => 0, fun i hi => absurd hi (by simp [cnt]), fun i j _ hj => absurd hj (by simp [cnt])⟩
  | succ M ih =>
    obtain ⟨t, h1, h2⟩ := ih
    by_cases q : f M = true
    · refine ⟨fun i => if i = cnt M f then M else t i, fun i hi => ?_, fun i j hij hj => ?_⟩
      · simp only [cnt, if_pos q] at hi
        by_cases q2 : i = cnt M f
        · simp only [if_pos q2]; exact ⟨by omega, q, q2.symm⟩
        · simp only [if_neg q2]
          obtain ⟨a, b, c⟩ := h1 i (by omega)
          exact ⟨by omega, b, c⟩
      · simp only [cnt, if_pos q] at hj
        by_cases q2 : j = cnt M f
        · simp only [if_pos q2, if_neg (show i ≠ cnt M f by omega)]
          exact (h1 i (by omega)).1
        · simp only [if_neg q2, if_neg (show i ≠ cnt M f by omega)]
          exact h2 i j hij (by omega)
    · refine ⟨t, fun i hi => ?_, fun i j hij hj => ?_⟩
      · simp only [cnt, if_neg q] at hi
        obtain ⟨a, b, c⟩ := h1 i (by omega)
        exact ⟨by omega, b, c⟩
      · simp only [cnt, if_neg q] at hj
        exact h2 i j hij (by omega)
theorem cnt_inj_le {M : Nat} {os : Nat → Nat} {P : Nat → Bool} (h1 : ∀ a, a < M → os a < M) (h2 : ∀ a b, a < M → b < M → os a = os b → a = b) : cnt M (fun a => P (os a)) ≤ cnt M P := by
  obtain ⟨t, t1, t2⟩ := cnt_enum M (fun a => P (os a))
  have h3 := inP_cnt (n := M) (R := cnt M (fun a => P (os a))) (pv := fun i => os (t i)) (fun i hi => h1 _ (t1 i hi).1) (fun i j hi hj e => inc_inj t2 i j hi hj (h2 _ _ (t1 i hi).1 (t1 j hj).1 e))
  rw [← h3]
  refine cnt_le (fun e _ he => ?_)
  obtain ⟨i, i1, rfl⟩ := inP_iff.mp he
  exact (t1 i i1).2.1
theorem inj_sur {M : Nat} {os : Nat → Nat} (h1 : ∀ a, a < M → os a < M) (h2 : ∀ a b, a < M → b < M → os a = os b → a = b) : ∀ S, S < M → ∃ a, a < M ∧ os a = S := by
  intro S hS
  have h3 := inP_cnt (n := M) (R := M) (pv := os) h1 h2
  have c6 : ∀ M, cnt M (fun _ => true) = M := by
    intro M
    induction M with
    | zero => rfl
    | succ M ih => simp only [cnt]; rw [ih]; simp
  have h4 := cnt_eq (n := M) (f := inP M os) (g := fun _ => true) (fun _ _ _ => rfl) (by rw [c6, h3]; exact Nat.le_refl _) S hS rfl
  exact inP_iff.mp h4
theorem cnt_perm {M : Nat} {os : Nat → Nat} {P : Nat → Bool} (h1 : ∀ a, a < M → os a < M) (h2 : ∀ a b, a < M → b < M → os a = os b → a = b) : cnt M (fun a => P (os a)) = cnt M P := by
  have h3 := cnt_inj_le (P := P) h1 h2
  have hs := inj_sur h1 h2
  have hex : ∃ iv : Nat → Nat, ∀ S, S < M → iv S < M ∧ os (iv S) = S := by
    refine ⟨fun S => if h : S < M then (hs S h).choose else 0, fun S hS => ?_⟩
    simp only [dif_pos hS]
    exact (hs S hS).choose_spec
  obtain ⟨iv, hiv⟩ := hex
  have h4 := cnt_inj_le (M := M) (os := iv) (P := fun a => P (os a)) (fun S hS => (hiv S hS).1) (fun S T hS hT e => by rw [← (hiv S hS).2, ← (hiv T hT).2, e])
  have h5 : cnt M (fun S => P (os (iv S))) = cnt M P := cnt_congr (fun S hS => by rw [(hiv S hS).2])
  rw [h5] at h4
  omega
/-- an order of the sets below M by a key -/
def Od (M : Nat) (κ : Nat → Nat) (os : Nat → Nat) : Prop := (∀ a, a < M → os a < M) ∧ ∀ a b, a < b → b < M → κ (os a) < κ (os b)
theorem Od_lt {M : Nat} {κ os : Nat → Nat} (h : Od M κ os) {a b : Nat} (ha : a < M) (hb : b < M) : κ (os a) < κ (os b) ↔ a < b := by
  constructor
  · intro h1
    rcases Nat.lt_trichotomy a b with q | q | q
    · exact q
    · rw [q] at h1; omega
    · have := h.2 b a q ha; omega
  · intro h1; exact h.2 a b h1 hb
theorem Od_inj {M : Nat} {κ os : Nat → Nat} (h : Od M κ os) : ∀ a b, a < M → b < M → os a = os b → a = b := by
  intro a b ha hb e
  rcases Nat.lt_trichotomy a b with q | q | q
  · have := h.2 a b q hb; rw [e] at this; omega
  · exact q
  · have := h.2 b a q ha; rw [e] at this; omega
theorem cnt_cut {M a : Nat} {f : Nat → Bool} (h : a ≤ M) : cnt M (fun b => f b && decide (b < a)) = cnt a f := by
  rw [cnt_ext (N := a) h (fun e h1 _ => by simp; intro _; omega)]
  exact cnt_congr (fun e he => by simp [he])
theorem Od_cnt {M : Nat} {κ os : Nat → Nat} {P : Nat → Bool} (h : Od M κ os) {a : Nat} (ha : a < M) : cnt a (fun b => P (os b)) = cnt M (fun T => P T && decide (κ T < κ (os a))) := by
  rw [← cnt_perm (P := fun T => P T && decide (κ T < κ (os a))) h.1 (Od_inj h), ← cnt_cut (f := fun b => P (os b)) (Nat.le_of_lt ha)]
  refine cnt_congr (fun b hb => ?_)
  rw [Bool.eq_iff_iff]
  simp only [Bool.and_eq_true, decide_eq_true_eq]
  rw [Od_lt h hb ha]
theorem key_un {M : Nat} {κ : Nat → Nat} {P : Nat → Bool} {S T : Nat} (hinj : ∀ S T, S < M → T < M → κ S = κ T → S = T) (hS : S < M) (hT : T < M) (pS : P S = true) (pT : P T = true) (h : cnt M (fun U => P U && decide (κ U < κ S)) = cnt M (fun U => P U && decide (κ U < κ T))) : S = T := by
  have key : ∀ S T, S < M → T < M → P S = true → κ S < κ T → cnt M (fun U => P U && decide (κ U < κ S)) < cnt M (fun U => P U && decide (κ U < κ T)) := by
    intro S T hS hT pS hlt
    rcases Nat.lt_or_ge (cnt M (fun U => P U && decide (κ U < κ S))) (cnt M (fun U => P U && decide (κ U < κ T))) with q | q
    · exact q
    · exfalso
      have h1 := cnt_eq (n := M) (f := fun U => P U && decide (κ U < κ S)) (g := fun U => P U && decide (κ U < κ T)) (fun e _ he => by
        simp only [Bool.and_eq_true, decide_eq_true_eq] at he ⊢
        exact ⟨he.1, by omega⟩) q S hS (by simp [pS, hlt])
      simp at h1
  rcases Nat.lt_trichotomy (κ S) (κ T) with q | q | q
  · have := key S T hS hT pS q; omega
  · exact hinj S T hS hT q
  · have := key T S hT hS pT q; omega
