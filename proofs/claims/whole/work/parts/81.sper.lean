/-! Sperner: no antichain of sets of twelve columns is larger than 924 -/
def fc : Nat → Int
  | 0 => 1
  | n + 1 => (n + 1) * fc n
theorem fc_nn (n : Nat) : 0 ≤ fc n := by
  induction n with
  | zero => decide
  | succ n ih => simp only [fc]; exact Int.mul_nonneg (by omega) ih
theorem sm_le {n : Nat} {f g : Nat → Int} (h : ∀ e, e < n → f e ≤ g e) : sm n f ≤ sm n g := by
  induction n with
  | zero => exact Int.le_refl _
  | succ n ih =>
    simp only [sm]
    have := ih (fun e he => h e (by omega))
    have := h n (by omega)
    omega
theorem sm_cnt {n : Nat} {p : Nat → Bool} {c : Int} : sm n (fun e => if p e = true then c else 0) = cnt n p * c := by
  induction n with
  | zero => simp [sm, cnt]
  | succ n ih =>
    simp only [sm, cnt]
    rw [ih]
    by_cases q : p n = true
    · rw [if_pos q, if_pos q]; push_cast; grind
    · rw [if_neg q, if_neg q]; simp
theorem sub_and {S G : Nat} : S &&& G = S ↔ sub S G := by
  constructor
  · intro h e he
    rw [← h, Nat.testBit_and] at he
    simp at he
    exact he.2
  · intro h
    apply Nat.eq_of_testBit_eq
    intro e
    rw [Nat.testBit_and]
    cases q : S.testBit e with
    | false => rfl
    | true => rw [h e q]; rfl
theorem sub_eq {S T N : Nat} (hN : N ≤ 12) (hT : T < 2 ^ N) (h : sub S T) (hc : cn T ≤ cn S) : S = T := by
  apply Classical.byContradiction
  intro hne
  obtain ⟨e, e1, e2, e3⟩ := sub_ne hT h hne
  have h1 := sub_cn (sub_tg h e3)
  have h2 := tg_cn hT hN e1 e2
  omega
theorem lym {F : Nat → Bool} (hA : ∀ S T, S < 4096 → T < 4096 → F S = true → F T = true → sub S T → S = T) : ∀ g G, G < 4096 → cn G = g → sm 4096 (fun S => if F S = true ∧ S &&& G = S then fc (cn S) * fc (g - cn S) else 0) ≤ fc g := by
  intro g
  induction g with
  | zero =>
    intro G hG hc
    have h0 := cn_0 hG hc
    subst h0
    have h1 : ∀ S, S < 4096 → (if F S = true ∧ S &&& 0 = S then fc (cn S) * fc (0 - cn S) else 0) ≤ (if S = 0 then (1 : Int) else 0) := by
      intro S hS
      by_cases q : F S = true ∧ S &&& 0 = S
      · have : S = 0 := by rw [← q.2, Nat.and_zero]
        subst this
        rw [if_pos q, if_pos rfl]; decide
      · rw [if_neg q]; split <;> decide
    have h2 := sm_le h1
    rw [sm_one (by decide)] at h2
    exact h2
  | succ g ih =>
    intro G hG hc
    by_cases hF : F G = true
    · have h1 : ∀ S, S < 4096 → (if F S = true ∧ S &&& G = S then fc (cn S) * fc (g + 1 - cn S) else 0) = (if S = G then fc (g + 1) else 0) := by
        intro S hS
        by_cases q : F S = true ∧ S &&& G = S
        · have : S = G := hA S G hS hG q.1 hF (sub_and.mp q.2)
          subst this
          rw [if_pos q, if_pos rfl, hc, Nat.sub_self]
          simp [fc]
        · rw [if_neg q, if_neg]
          intro h
          subst h
          exact q ⟨hF, Nat.and_self _⟩
      rw [sm_congr h1, sm_one hG]
      exact Int.le_refl _
    · have h1 : ∀ S, S < 4096 → (if F S = true ∧ S &&& G = S then fc (cn S) * fc (g + 1 - cn S) else 0) = sm 12 (fun e => if G.testBit e = true then (if F S = true ∧ S &&& tg G e = S then fc (cn S) * fc (g - cn S) else 0) else 0) := by
        intro S hS
        by_cases q : F S = true ∧ S &&& G = S
        · have hs := sub_and.mp q.2
          have hlt : cn S ≤ g := by
            rcases Nat.lt_or_ge g (cn S) with q2 | q2
            · exfalso
              have := sub_eq (N := 12) (Nat.le_refl _) hG hs (by omega)
              rw [this] at q
              exact hF q.1
            · exact q2
          have e1 : ∀ e, e < 12 → (if G.testBit e = true then (if F S = true ∧ S &&& tg G e = S then fc (cn S) * fc (g - cn S) else 0) else 0) = (if (G.testBit e && !S.testBit e) = true then fc (cn S) * fc (g - cn S) else 0) := by
            intro e he
            cases hg : G.testBit e with
            | false => simp
            | true =>
              rw [if_pos rfl]
              cases hse : S.testBit e with
              | true =>
                rw [if_neg, if_neg (by decide)]
                intro h
                have := sub_and.mp h.2 e hse
                rw [tg_self, hg] at this; cases this
              | false =>
                rw [if_pos ⟨q.1, sub_and.mpr (sub_tg hs hse)⟩, if_pos (by decide)]
          rw [if_pos q, sm_congr e1, sm_cnt]
          have h3 := cnt_split 12 G.testBit S.testBit
          have h4 : cnt 12 (fun e => G.testBit e && S.testBit e) = cn S := cnt_congr (fun e _ => by
            cases hse : S.testBit e with
            | false => simp
            | true => rw [hs e hse]; rfl)
          unfold cn at hc
          rw [h4, hc] at h3
          have h5 : cnt 12 (fun e => G.testBit e && !S.testBit e) = (g - cn S) + 1 := by omega
          rw [h5, show g + 1 - cn S = (g - cn S) + 1 by omega]
          simp only [fc]
          push_cast
          grind
        · rw [if_neg q, sm_z]
          intro e he
          cases hg : G.testBit e with
          | false => simp
          | true =>
            rw [if_pos rfl, if_neg]
            intro h
            exact q ⟨h.1, sub_and.mpr (sub_tr (sub_and.mp h.2) (tg_sub hg))⟩
      rw [sm_congr h1, sm_comm]
      have h2 : ∀ e, e < 12 → sm 4096 (fun S => if G.testBit e = true then (if F S = true ∧ S &&& tg G e = S then fc (cn S) * fc (g - cn S) else 0) else 0) ≤ (if G.testBit e = true then fc g else 0) := by
        intro e he
        by_cases hg : G.testBit e = true
        · rw [if_pos hg, sm_congr (fun S _ => if_pos hg)]
          refine ih (tg G e) (tg_lt (n := 12) hG he) ?_
          have := tg_cn (N := 12) hG (Nat.le_refl _) he hg
          omega
        · rw [if_neg hg, sm_z (fun S _ => if_neg hg)]
          exact Int.le_refl _
      have h3 := sm_le h2
      rw [sm_cnt] at h3
      unfold cn at hc
      rw [hc] at h3
      simp only [fc]
      push_cast at h3 ⊢
      exact h3
theorem sperner {F : Nat → Bool} (hA : ∀ S T, S < 4096 → T < 4096 → F S = true → F T = true → sub S T → S = T) : cnt 4096 F ≤ 924 := by
  have h1 := lym hA 12 4095 (by decide) (by decide)
  have h2 : ∀ S, S < 4096 → (if F S = true then (518400 : Int) else 0) ≤ (if F S = true ∧ S &&& 4095 = S then fc (cn S) * fc (12 - cn S) else 0) := by
    intro S hS
    by_cases q : F S = true
    · rw [if_pos q, if_pos ⟨q, by
        have := Nat.and_two_pow_sub_one_eq_mod S 12
        rw [show (2 : Nat) ^ 12 - 1 = 4095 from rfl] at this
        rw [this]; omega⟩]
      have h3 := cn_le S
      have : ∀ k : Fin 13, (518400 : Int) ≤ fc k.val * fc (12 - k.val) := by decide
      exact this ⟨cn S, by omega⟩
    · rw [if_neg q, if_neg (fun h => q h.1)]; exact Int.le_refl _
  have h4 := sm_le h2
  rw [sm_cnt] at h4
  have h5 : fc 12 = 479001600 := by decide
  omega
theorem RF_sub {N R : Nat} {ρ : Nat → Nat} (hN : N ≤ 12) (hρ : RF N R ρ) : ∀ k S T, T < 2 ^ N → sub S T → cn T = cn S + k → ρ S ≤ ρ T ∧ ρ T + cn S ≤ ρ S + cn T := by
  intro k
  induction k with
  | zero =>
    intro S T hT hs hc
    have := sub_eq hN hT hs (by omega)
    subst this
    omega
  | succ k ih =>
    intro S T hT hs hc
    have hne : S ≠ T := by intro h; rw [h] at hc; omega
    obtain ⟨e, e1, e2, e3⟩ := sub_ne hT hs hne
    have h1 := tg_cn hT hN e1 e2
    have h2 := ih S (tg T e) (tg_lt hT e1) (sub_tg hs e3) (by omega)
    have h3 := hρ.2.1 (tg T e) e (tg_lt hT e1) e1 (by rw [tg_self, e2]; rfl)
    rw [tg_tg] at h3
    omega
theorem cnt_pad {N : Nat} {F : Nat → Bool} (hN : N ≤ 12) : cnt 4096 (fun S => decide (S < 2 ^ N) && F S) = cnt (2 ^ N) F := by
  have hM := p2_12 hN
  rw [cnt_ext (N := 2 ^ N) hM (fun e h1 _ => by
    have : ¬ e < 2 ^ N := by omega
    simp [this])]
  exact cnt_congr (fun e he => by simp [he])
theorem Kb_924 {N R kind : Nat} {ρ : Nat → Nat} (hN : N ≤ 12) (hρ : RF N R ρ) (hk : kind < 3) : cnt (2 ^ N) (Kb N R ρ kind) ≤ 924 := by
  have hM := p2_12 hN
  rw [← cnt_pad hN]
  refine sperner (fun S T hS hT fS fT hs => ?_)
  rw [Bool.and_eq_true] at fS fT
  have hSN := of_decide_eq_true fS.1
  have hTN := of_decide_eq_true fT.1
  apply Classical.byContradiction
  intro hne
  obtain ⟨e, e1, e2, e3⟩ := sub_ne hTN hs hne
  have h1 := tg_cn hTN hN e1 e2
  have h2 := sub_cn (sub_tg hs e3)
  have hk3 : kind = 0 ∨ kind = 1 ∨ kind = 2 := by omega
  rcases hk3 with rfl | rfl | rfl
  · rw [Kb_0, Bool.and_eq_true] at fS fT
    have := of_decide_eq_true fS.2.2
    have := of_decide_eq_true fT.2.2
    omega
  · rw [Kb_1, Bool.and_eq_true] at fS fT
    have h3 := of_decide_eq_true fS.2.1
    have h4 := alb_iff.mp fT.2.2 e e1
    rw [e2] at h4
    simp at h4
    have h5 := (RF_sub hN hρ (cn (tg T e) - cn S) S (tg T e) (tg_lt hTN e1) (sub_tg hs e3) (by omega)).2
    have h6 := hρ.1 S hSN
    omega
  · rw [Kb_2, Bool.and_eq_true] at fS fT
    have h3 := of_decide_eq_true fS.2.1
    have h4 := of_decide_eq_true fT.2.1
    have h5 := alb_iff.mp fT.2.2 e e1
    have b1 : (cp N T).testBit e = false := by rw [cp_bit hTN, e2]; simp
    rw [b1] at h5
    simp at h5
    have h6 := hρ.2.1 (cp N T) e (cp_lt hTN) e1 b1
    have hs2 : sub (tg (cp N T) e) (cp N S) := by
      intro x hx
      by_cases q : e = x
      · subst q; rw [cp_bit hSN, e3]; simp [e1]
      · rw [tg_ne q, cp_bit hTN] at hx
        rw [cp_bit hSN]
        simp at hx ⊢
        refine ⟨hx.1, ?_⟩
        cases qs : S.testBit x with
        | false => rfl
        | true => rw [hs x qs] at hx; exact absurd hx.2 (by decide)
    have h7 := sub_cn hs2
    have h8 := (RF_sub hN hρ (cn (cp N S) - cn (tg (cp N T) e)) _ _ (cp_lt hSN) hs2 (by omega)).1
    omega
theorem cnt_le_M {M : Nat} {f : Nat → Bool} : cnt M f ≤ M := cnt_bd
