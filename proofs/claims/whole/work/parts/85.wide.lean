/-! a circuit widened to full rank -/
/-- the greedy widening of the set S, columns below e -/
def wdn (ρ : Nat → Nat) (S : Nat) : Nat → Nat
  | 0 => S
  | e + 1 => if (wdn ρ S e).testBit e = true then wdn ρ S e else if ρ (tg (wdn ρ S e) e) ≤ ρ (wdn ρ S e) then wdn ρ S e else tg (wdn ρ S e) e
theorem wdn_sub {ρ : Nat → Nat} {S e : Nat} : sub S (wdn ρ S e) := by
  induction e with
  | zero => exact sub_rfl S
  | succ e ih =>
    simp only [wdn]
    split
    · exact ih
    · rename_i h
      split
      · exact ih
      · exact sub_tr ih (sub_up (by simpa using h))
theorem wdn_lt {ρ : Nat → Nat} {S N e : Nat} (hS : S < 2 ^ N) (he : e ≤ N) : wdn ρ S e < 2 ^ N := by
  induction e with
  | zero => exact hS
  | succ e ih =>
    have := ih (by omega)
    simp only [wdn]
    split
    · exact this
    · split
      · exact this
      · exact tg_lt this (by omega)
theorem wdn_bit {ρ : Nat → Nat} {S e x : Nat} (hx : (wdn ρ S e).testBit x = true) : S.testBit x = true ∨ x < e := by
  induction e with
  | zero => exact Or.inl hx
  | succ e ih =>
    simp only [wdn] at hx
    split at hx
    · rcases ih hx with q | q
      · exact Or.inl q
      · exact Or.inr (by omega)
    · split at hx
      · rcases ih hx with q | q
        · exact Or.inl q
        · exact Or.inr (by omega)
      · by_cases q : e = x
        · exact Or.inr (by omega)
        · rw [tg_ne q] at hx
          rcases ih hx with q | q
          · exact Or.inl q
          · exact Or.inr (by omega)
/-- circuits -/
def Cir (N : Nat) (ρ : Nat → Nat) (C : Nat) : Prop := C < 2 ^ N ∧ ρ C + 1 = cn C ∧ ∀ e, e < N → C.testBit e = true → ρ (tg C e) + 1 = cn C
theorem Cir_of {N R C : Nat} {ρ : Nat → Nat} (hC : C < 2 ^ N) (h : Kb N R ρ 1 C = true) : Cir N ρ C := by
  rw [Kb_1, Bool.and_eq_true] at h
  refine ⟨hC, of_decide_eq_true h.1, fun e he hb => ?_⟩
  have := alb_iff.mp h.2 e he
  rw [hb] at this
  simpa using this
/-- the widening of the circuit and of the circuit without one of its columns go together -/
theorem wdn_two {N R C l : Nat} {ρ : Nat → Nat} (hN : N ≤ 12) (hρ : RF N R ρ) (hcl : Clo N ρ) (hC : Cir N ρ C) (hl : l < N) (hlC : C.testBit l = true) : ∀ M, M < 2 ^ N → sub C M → ρ (tg M l) = ρ M := by
  intro M hM hs
  have h1 := hC.2.2 l hl hlC
  have h2 := hC.2.1
  have hM' : (tg M l).testBit l = false := by rw [tg_self, hs l hlC]; rfl
  have := hcl (tg C l) (tg M l) l (tg_lt hM hl) hl (fun y hy => by
    by_cases q : l = y
    · subst q; rw [tg_self, hlC] at hy; cases hy
    · rw [tg_ne q] at hy ⊢; exact hs y hy) hM' (by rw [tg_tg]; omega)
  rw [tg_tg] at this
  exact this.symm
theorem wdn_rank {N R C l : Nat} {ρ : Nat → Nat} (hN : N ≤ 12) (hρ : RF N R ρ) (hcl : Clo N ρ) (hC : Cir N ρ C) (hl : l < N) (hlC : C.testBit l = true) : ∀ e, e ≤ N → ρ (wdn ρ C e) + 1 = cn (wdn ρ C e) ∧ ∀ f, f < e → (wdn ρ C e).testBit f = false → ρ (tg (wdn ρ C e) f) = ρ (wdn ρ C e) := by
  intro e
  induction e with
  | zero => intro _; exact ⟨hC.2.1, fun f hf => absurd hf (by omega)⟩
  | succ e ih =>
    intro he
    obtain ⟨h1, h2⟩ := ih (by omega)
    have hWl : wdn ρ C e < 2 ^ N := wdn_lt hC.1 (by omega)
    simp only [wdn]
    by_cases q : (wdn ρ C e).testBit e = true
    · rw [if_pos q]
      refine ⟨h1, fun f hf hb => ?_⟩
      by_cases q2 : f = e
      · rw [q2, q] at hb; cases hb
      · exact h2 f (by omega) hb
    · rw [if_neg q]
      have hb : (wdn ρ C e).testBit e = false := by simpa using q
      have h3 := hρ.2.1 _ e hWl (by omega) hb
      by_cases q2 : ρ (tg (wdn ρ C e) e) ≤ ρ (wdn ρ C e)
      · rw [if_pos q2]
        refine ⟨h1, fun f hf hb2 => ?_⟩
        by_cases q3 : f = e
        · rw [q3]; omega
        · exact h2 f (by omega) hb2
      · rw [if_neg q2]
        have h4 := cnt_tg (n := 12) (e := e) (by omega) (wdn ρ C e)
        rw [if_neg q, if_neg q] at h4
        refine ⟨by unfold cn at *; omega, fun f hf hb2 => ?_⟩
        by_cases q3 : f = e
        · rw [q3, tg_self, hb] at hb2; cases hb2
        · have hb3 : (wdn ρ C e).testBit f = false := by rw [tg_ne (fun h => q3 h.symm)] at hb2; exact hb2
          exact hcl (wdn ρ C e) (tg (wdn ρ C e) e) f (tg_lt hWl (by omega)) (by omega) (sub_up hb) hb2 (h2 f (by omega) hb3)
/-- without one column of the circuit the widened one is a basis -/
theorem wdn_basis {N R C : Nat} {ρ : Nat → Nat} {cv : Nat → Int32} (hN : N ≤ 12) (hρ : RF N R ρ) (hcl : Clo N ρ) (h : ∀ S, S < 2 ^ N → IsRk N cv S (ρ S)) (hcv0 : ∀ S, S < 2 ^ N → cn S ≠ R → cv S = 0) (hC : Cir N ρ C) {x : Nat} (hx : x < N) (hxC : C.testBit x = true) : cv (tg (wdn ρ C N) x) ≠ 0 ∧ cn (wdn ρ C N) = R + 1 := by
  have hWl : wdn ρ C N < 2 ^ N := wdn_lt hC.1 (Nat.le_refl _)
  obtain ⟨h1, h2⟩ := wdn_rank hN hρ hcl hC hx hxC N (Nat.le_refl _)
  have h3 := wdn_two hN hρ hcl hC hx hxC _ hWl wdn_sub
  have hWx : (wdn ρ C N).testBit x = true := wdn_sub x hxC
  have hBl := tg_lt hWl hx
  have h4 := tg_cn hWl hN hx hWx
  obtain ⟨⟨I, i1, i2, i3⟩, i4⟩ := h _ hBl
  have hI : I = tg (wdn ρ C N) x := sub_eq hN hBl i1 (by omega)
  subst hI
  obtain ⟨T, t1, t2, t3⟩ := i2
  have hTR : cn T = R := Classical.byContradiction (fun hc => t2 (hcv0 T t1 hc))
  have hBT : tg (wdn ρ C N) x = T := by
    apply Classical.byContradiction
    intro hne
    obtain ⟨f, f1, f2, f3⟩ := sub_ne t1 t3 hne
    have hfr : Fr N cv (tg (tg (wdn ρ C N) x) f) := ⟨T, t1, t2, fun y hy => by
      by_cases q : f = y
      · subst q; exact f2
      · rw [tg_ne q] at hy; exact t3 y hy⟩
    have h5 := (h _ (tg_lt hBl f1)).2 _ (sub_rfl _) hfr
    have h6 := cnt_tg (n := 12) (e := f) (by omega) (tg (wdn ρ C N) x)
    rw [if_neg (by rw [f3]; decide), if_neg (by rw [f3]; decide)] at h6
    by_cases q : f = x
    · subst q
      rw [tg_tg] at h5
      unfold cn at *
      rw [tg_tg] at h6
      omega
    · have hb : (wdn ρ C N).testBit f = false := by rw [tg_ne (fun h => q h.symm)] at f3; exact f3
      have h7 := h2 f f1 hb
      have h8 := hρ.2.1 (tg (tg (wdn ρ C N) x) f) x (tg_lt hBl f1) hx (by rw [tg_ne q, tg_self, hWx]; rfl)
      have e1 : tg (tg (tg (wdn ρ C N) x) f) x = tg (wdn ρ C N) f := by rw [tg_comm (tg (wdn ρ C N) x) f x, tg_tg]
      rw [e1] at h8
      unfold cn at *
      omega
  rw [hBT]
  rw [hBT] at h4
  exact ⟨t2, by omega⟩
/-- the class widens so -/
theorem wi_ok {rk : Nat → Int32} {ρ : Nat → Nat} {N S : Nat} (hN : N ≤ 12) (hS : S < 2 ^ N) (hrk : ∀ T, T < 2 ^ N → rk T = nI (ρ T) ∧ ρ T ≤ 12) : ok (f_S_widened (nI N) 4096 rk (nI S)) (fun r => r = nI (wdn ρ S N)) := by
  have hM := p2_12 hN
  unfold f_S_widened
  refine lo2_F (fun v x => ∃ e : Nat, e ≤ N ∧ v = nI e ∧ x = nI (wdn ρ S e)) (fun v _ => N - v.toNatClampNeg) ?_ ⟨0, Nat.zero_le _, nI_0.symm, rfl⟩ (by omega)
  rintro kr v x ⟨e, he, rfl, rfl⟩ ih
  refine ok_if (fun q => ?_) (fun q => ?_)
  · have e1 : e = N := by
      have := (nI_leI (by omega) (by omega)).mp q
      omega
    subst e1
    exact ok_some rfl
  · have hlt : e < N := by
      rcases Nat.lt_or_ge e N with q1 | q1
      · exact q1
      · exact absurd ((nI_leI (by omega) (by omega)).mpr q1) q
    have hWl : wdn ρ S e < 2 ^ N := wdn_lt hS (by omega)
    have hor := nI_orb (S := wdn ρ S e) (show e < 31 by omega)
    rw [hor]
    have hul : (if (wdn ρ S e).testBit e = true then wdn ρ S e else tg (wdn ρ S e) e) < 2 ^ N := by
      split
      · exact hWl
      · exact tg_lt hWl hlt
    refine ok_in (vp_in_nI (by omega) (by decide)) (ok_in (vp_in_nI (by omega) (by decide)) ?_)
    rw [nI_clamp (by omega), nI_clamp (by omega), (hrk _ hul).1, (hrk _ hWl).1]
    refine ok_jn (fun k37 => ok (k37 (nI (wdn ρ S (e + 1)))) (fun r => r = nI (wdn ρ S N))) ?_ ?_
    · refine ok_nmr (nI (e + 1)) (nI_1 ..) ?_
      exact ih _ _ ⟨e + 1, hlt, rfl, rfl⟩ (by rw [nI_clamp (by omega), nI_clamp (by omega)]; omega)
    · intro k37 h37
      have b1 := (hrk _ hul).2
      have b2 := (hrk _ hWl).2
      simp only [wdn] at h37
      by_cases q2 : (wdn ρ S e).testBit e = true
      · rw [if_pos q2] at h37
        simp only [if_pos q2]
        exact ok_if (fun _ => h37) (fun q3 => absurd (i_le.mpr (Int.le_refl _)) q3)
      · rw [if_neg q2] at h37
        simp only [if_neg q2] at b1 ⊢
        refine ok_if (fun q3 => ?_) (fun q3 => ?_)
        · have := (nI_leI (by omega) (by omega)).mp q3
          rw [if_pos this] at h37; exact h37
        · have : ¬ ρ (tg (wdn ρ S e) e) ≤ ρ (wdn ρ S e) := fun h => q3 ((nI_leI (by omega) (by omega)).mpr h)
          rw [if_neg this] at h37
          refine ok_nmr _ rfl h37
/-- which columns of C have another sign than the first of them -/
def nbt (C : Nat) (g : Nat → Int32) (l : Nat) : Nat → Nat
  | 0 => 0
  | e + 1 => if C.testBit e = true ∧ g e ≠ g l then nbt C g l e ||| 2 ^ e else nbt C g l e
theorem nbt_lt {C l e : Nat} {g : Nat → Int32} (he : e ≤ 12) : nbt C g l e < 4096 := by
  have key : ∀ e, nbt C g l e < 2 ^ e := by
    intro e
    induction e with
    | zero => exact Nat.one_pos
    | succ e ih =>
      simp only [nbt]
      have h1 : (2 : Nat) ^ e < 2 ^ (e + 1) := Nat.pow_lt_pow_right (by decide) (by omega)
      split
      · exact Nat.or_lt_two_pow (by omega) h1
      · omega
  have := key e
  have h2 : (2 : Nat) ^ e ≤ 2 ^ 12 := Nat.pow_le_pow_right (by decide) he
  omega
theorem np_ok {rk sgn : Nat → Int32} {ρ : Nat → Nat} {N C l : Nat} (hN : N ≤ 12) (hC : C < 2 ^ N) (hl : C.testBit l = true) (hmin : ∀ e, e < l → C.testBit e = false) (hrk : ∀ T, T < 2 ^ N → rk T = nI (ρ T) ∧ ρ T ≤ 12) (hne : ∀ e, e < N → C.testBit e = true → turn (wdn ρ C N) e * sgn (tg (wdn ρ C N) e) ≠ 0) : ok (f_S_negativePart (nI N) 4096 rk 4096 sgn (nI C)) (fun r => r = nI (nbt C (fun e => turn (wdn ρ C N) e * sgn (tg (wdn ρ C N) e)) l N)) := by
  have hM := p2_12 hN
  have hWl : wdn ρ C N < 2 ^ N := wdn_lt hC (Nat.le_refl _)
  have hlN := lt_bit hC hl
  unfold f_S_negativePart
  refine ok_b1 (wi_ok hN hC hrk) ?_
  rintro r1 rfl
  generalize hW : wdn ρ C N = W at *
  refine lo4_F (fun v t f x => ∃ e : Nat, e ≤ N ∧ v = nI e ∧ t = turn W e ∧ f = (if e ≤ l then 0 else turn W l * sgn (tg W l)) ∧ x = nI (nbt C (fun e => turn W e * sgn (tg W e)) l e)) (fun v _ _ _ => N - v.toNatClampNeg) ?_ ⟨0, Nat.zero_le _, nI_0.symm, rfl, (if_pos (Nat.zero_le _)).symm, rfl⟩ (by omega)
  rintro kr v t f x ⟨e, he, rfl, rfl, rfl, rfl⟩ ih
  refine ok_if (fun q => ?_) (fun q => ?_)
  · have e1 : e = N := by
      have := (nI_leI (by omega) (by omega)).mp q
      omega
    subst e1
    exact ok_some rfl
  · have hlt : e < N := by
      rcases Nat.lt_or_ge e N with q1 | q1
      · exact q1
      · exact absurd ((nI_leI (by omega) (by omega)).mpr q1) q
    have hz : ∀ S, S < 4096 → ((nI S &&& nI (2 ^ e) = 0) ↔ S.testBit e = false) := by
      intro S hS
      have hpe : 2 ^ e < 2 ^ 31 := Nat.pow_lt_pow_right (by decide) (by omega)
      rw [nI_and (by omega) hpe, nI_eq0 (Nat.lt_of_le_of_lt Nat.and_le_left (by omega))]
      constructor
      · intro h
        have h1 : (S &&& 2 ^ e).testBit e = false := by rw [h, Nat.zero_testBit]
        rw [Nat.testBit_and, Nat.testBit_two_pow_self] at h1
        simpa using h1
      · intro h
        apply Nat.eq_of_testBit_eq
        intro y
        rw [Nat.testBit_and, Nat.testBit_two_pow, Nat.zero_testBit]
        by_cases q2 : e = y
        · subst q2; rw [h]; rfl
        · simp [q2]
    refine ok_nmr (nI (2 ^ e)) (by rw [nI_31 (by omega), nI_shl (by omega)]) ?_
    refine ok_jn (fun k83 => ok (k83 (nI (nbt C (fun e => turn W e * sgn (tg W e)) l (e + 1))) (if e + 1 ≤ l then 0 else turn W l * sgn (tg W l))) (fun r => r = nI (nbt C (fun e => turn W e * sgn (tg W e)) l N))) ?_ ?_
    · refine ok_jn (fun k98 => ok (k98 (turn W (e + 1))) (fun r => r = nI (nbt C (fun e => turn W e * sgn (tg W e)) l N))) ?_ ?_
      · refine ok_nmr (nI (e + 1)) (nI_1 ..) ?_
        exact ih _ _ _ _ ⟨e + 1, hlt, rfl, rfl, rfl, rfl⟩ (by rw [nI_clamp (by omega), nI_clamp (by omega)]; omega)
      · intro k98 h98
        rw [turn_up] at h98
        refine ok_if (fun q2 => ?_) (fun q2 => ?_)
        · rw [hz W (by omega)] at q2
          rw [if_neg (by rw [q2]; decide)] at h98; exact h98
        · rw [hz W (by omega)] at q2
          rw [if_pos (by simpa using q2)] at h98; exact h98
    · intro k83 h83
      simp only [nbt] at h83
      refine ok_if (fun q2 => ?_) (fun q2 => ?_)
      · rw [hz C (by omega)] at q2
        rw [if_neg (fun h => by rw [q2] at h; exact absurd h.1 (by decide))] at h83
        have e1 : (if e + 1 ≤ l then (0 : Int32) else turn W l * sgn (tg W l)) = (if e ≤ l then 0 else turn W l * sgn (tg W l)) := by
          have : e ≠ l := fun h => by rw [h, hl] at q2; cases q2
          by_cases q3 : e ≤ l
          · rw [if_pos q3, if_pos (by omega)]
          · rw [if_neg q3, if_neg (by omega)]
        rw [e1] at h83
        exact h83
      · rw [hz C (by omega)] at q2
        have hb : C.testBit e = true := by simpa using q2
        have hle : l ≤ e := by
          rcases Nat.lt_or_ge e l with q3 | q3
          · rw [hmin e q3] at hb; cases hb
          · exact q3
        have htl := tg_lt hWl hlt
        rw [nI_xor, show W ^^^ 2 ^ e = tg W e from rfl]
        refine ok_in (vp_in_nI (by omega) (by decide)) ?_
        refine ok_nmr (turn W e * sgn (tg W e)) (by rw [nI_clamp (by omega)]) ?_
        refine ok_jn (fun k65 => ok (k65 (turn W l * sgn (tg W l))) (fun r => r = nI (nbt C (fun e => turn W e * sgn (tg W e)) l N))) ?_ ?_
        · rw [show (if e + 1 ≤ l then (0 : Int32) else turn W l * sgn (tg W l)) = turn W l * sgn (tg W l) from if_neg (by omega)] at h83
          refine ok_jn (fun k81 => ∀ z : Int32, (turn W e * sgn (tg W e) = turn W l * sgn (tg W l) → z = 0) → (turn W e * sgn (tg W e) ≠ turn W l * sgn (tg W l) → z = nI (2 ^ e)) → ok (k81 z) (fun r => r = nI (nbt C (fun e => turn W e * sgn (tg W e)) l N))) ?_ ?_
          · intro z z1 z2
            by_cases q4 : turn W e * sgn (tg W e) = turn W l * sgn (tg W l)
            · rw [if_neg (fun h => h.2 q4)] at h83
              refine ok_nmr _ ?_ h83
              rw [z1 q4, show (0 : Int32) = nI 0 from rfl, nI_or, Nat.or_zero]
            · rw [if_pos ⟨hb, q4⟩] at h83
              refine ok_nmr _ ?_ h83
              rw [z2 q4, nI_or]
          · intro k81 h81
            exact ok_if (fun q4 => h81 0 (fun _ => rfl) (fun h => absurd q4 h)) (fun q4 => h81 _ (fun h => absurd h q4) (fun _ => rfl))
        · intro k65 h65
          by_cases q3 : e = l
          · subst q3
            rw [if_pos (Nat.le_refl _)]
            exact ok_if (fun _ => h65) (fun q4 => absurd rfl q4)
          · rw [if_neg (by omega)]
            refine ok_if (fun q4 => ?_) (fun _ => h65)
            exact absurd q4 (hne l hlN hl)
