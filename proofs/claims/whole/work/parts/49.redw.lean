/-! reduce, field 0: a swap and a pivot keep the invariant -/
theorem Rs_swap {n rows c r C i : Nat} {pv : Nat → Nat} {A : Nat → Nat → Int} {V V' : Nat → Int} (h : Rs n rows c r C pv A V) (hcn : c ≤ n) (hr : r < rows) (hi : r ≤ i) (hir : i < rows) (hs : ∀ k, k < rows → ∀ e, e < n → V' (12 * k + e) = V (12 * (if k = r then i else if k = i then r else k) + e)) : Rs n rows c r C pv A V' := by
  obtain ⟨O, h1, h2, h3, h4, h5, h6, h7⟩ := h
  have hσ : ∀ k, k < rows → (if k = r then i else if k = i then r else k) < rows := by
    intro k hk
    split
    · exact hir
    · split
      · exact hr
      · exact hk
  refine ⟨fun k => O (if k = r then i else if k = i then r else k), ?_, fun k hk => h2 _ (hσ k hk), ?_, ?_, h5, h6, ?_⟩
  · refine Ez_cg (E := fun k => (fun j => V (12 * (if k = r then i else if k = i then r else k) + j))) ?_ (fun k hk e he => hs k hk e he)
    refine Ez_swap h1 hr hi hir (fun k hk => ?_) (fun k hk => ?_)
    · by_cases q : k = r
      · simp only [if_pos q]
      · by_cases q2 : k = i
        · simp only [if_neg q, if_pos q2]
        · simp only [if_neg q, if_neg q2]
    · by_cases q : k = r
      · simp only [if_pos q]
      · by_cases q2 : k = i
        · simp only [if_neg q, if_pos q2]
        · simp only [if_neg q, if_neg q2]
  · intro k hk
    rcases h3 _ (hσ k hk) with q | q
    · refine Or.inl ?_
      rw [← q]
      exact rg_cg (fun e he => hs k hk e he)
    · exact Or.inr (fun e he => by rw [hs k hk e he]; exact q e he)
  · intro k hk hk2 j hj
    rw [hs k hk2 j (by omega)]
    refine h4 _ ?_ (hσ k hk2) j hj
    split
    · exact hi
    · split <;> omega
  · intro w
    rw [← h7 w]
    constructor
    · intro g k hk S
      have g1 := g _ (hσ k hk) S
      have e : ∀ e, e < n → V' (12 * (if k = r then i else if k = i then r else k) + e) = V (12 * k + e) := by
        intro e he
        rw [hs _ (hσ k hk) e he]
        by_cases q : k = r
        · subst q
          rw [if_pos rfl]
          by_cases q2 : i = k
          · rw [if_pos q2, q2]
          · rw [if_neg q2, if_pos rfl]
        · rw [if_neg q]
          by_cases q2 : k = i
          · rw [if_pos q2, if_pos rfl, q2]
          · rw [if_neg q2, if_neg q, if_neg q2]
      rw [wd_cg e] at g1
      exact g1
    · intro g k hk S
      show ((0 : Nat) : Int) ∣ wd n (fun j => V' (12 * k + j)) w S
      rw [wd_cg (hs k hk)]
      exact g _ (hσ k hk) S
theorem Rs_piv {n rows c r C : Nat} {pv : Nat → Nat} {A : Nat → Nat → Int} {V V' : Nat → Int} (h : Rs n rows c r C pv A V) (hr : r < rows) (hc : c < n) (hp : V (12 * r + c) ≠ 0) (hrow : ∀ j, j < n → V' (12 * r + j) = V (12 * r + j)) (hT : ∀ i, i < rows → i ≠ r → Tk n c r V V' i) : Rs n rows (c + 1) (r + 1) C (fun j => if j = r then c else pv j) A V' := by
  obtain ⟨O, h1, h2, h3, h4, h5, h6, h7⟩ := h
  have hop := fun i hi hir => Tk_op (hT i hi hir) hp
  have hE := Ez_step (E' := fun i j => V' (12 * i + j)) h1 hr hc hp hrow hop
  refine ⟨O, hE, h2, ?_, ?_, ?_, ?_, ?_⟩
  · intro i hi
    by_cases q : i = r
    · subst q
      rcases h3 i hi with g | g
      · exact Or.inl (by rw [← g]; exact rg_cg hrow)
      · exact Or.inr (fun e he => by rw [hrow e he]; exact g e he)
    · rcases hT i hi q with ⟨g1, g2⟩ | ⟨g1, U, g2, g3⟩
      · rcases h3 i hi with g | g
        · exact Or.inl (by rw [← g]; exact rg_cg g2)
        · exact Or.inr (fun e he => by rw [g2 e he]; exact g e he)
      · by_cases q2 : rg U 0 n = 0
        · refine Or.inr (fun e he => ?_)
          have a1 := rg_0dvd (U := U) he
          rw [q2] at a1
          rw [g3 e he, z_dvd.mp a1, Int.zero_tdiv]
          exact Nat.zero_le _
        · exact Or.inl (rg_tdiv g3 q2)
  · intro i hi hi2 j hj
    by_cases q : j = c
    · subst q
      have := hE.2.2.2.1 i r hi2 (by omega) (by omega)
      simpa using this
    · obtain ⟨g, hg, hgo⟩ := hop i hi2 (by omega)
      have a1 := hgo j (by omega)
      rw [h4 i (by omega) hi2 j (by omega), h4 r (Nat.le_refl r) hr j (by omega)] at a1
      have a2 : g * V' (12 * i + j) = 0 := by rw [a1]; simp
      rcases Int.mul_eq_zero.mp a2 with q3 | q3
      · exact absurd q3 hg
      · exact q3
  · intro i hi
    by_cases q : i = r
    · simp only [if_pos q]; omega
    · simp only [if_neg q]; have := h5 i (by omega); omega
  · intro i j hij hj
    have q : i ≠ r := by omega
    by_cases q2 : j = r
    · simp only [if_neg q, if_pos q2]; exact h5 i (by omega)
    · simp only [if_neg q, if_neg q2]; exact h6 i j hij (by omega)
  · intro w
    rw [← h7 w]
    have hx : ¬ ((0 : Nat) : Int) ∣ V (12 * r + c) := fun e => hp (z_dvd.mp e)
    constructor
    · intro g i hi S
      have gr : ∀ S, ((0 : Nat) : Int) ∣ wd n (fun j => V (12 * r + j)) w S := fun S => by
        rw [← wd_cg hrow]; exact g r hr S
      by_cases q : i = r
      · subst q; exact gr S
      · obtain ⟨u, hu, huo⟩ := hop i hi q
        exact (kill_op (m := 0) (Or.inl rfl) (a' := fun j => V' (12 * i + j)) (a := fun j => V (12 * i + j)) (b := fun j => V (12 * r + j)) (g := u) (x := V (12 * r + c)) (y := V (12 * i + c)) (fun e he => z_dvd.mpr (by rw [huo e he]; omega)) gr (fun e => hu (z_dvd.mp e)) hx).mp (g i hi) S
    · intro g i hi S
      by_cases q : i = r
      · subst q
        show ((0 : Nat) : Int) ∣ wd n (fun j => V' (12 * i + j)) w S
        rw [wd_cg hrow]; exact g i hi S
      · obtain ⟨u, hu, huo⟩ := hop i hi q
        exact (kill_op (m := 0) (Or.inl rfl) (a' := fun j => V' (12 * i + j)) (a := fun j => V (12 * i + j)) (b := fun j => V (12 * r + j)) (g := u) (x := V (12 * r + c)) (y := V (12 * i + c)) (fun e he => z_dvd.mpr (by rw [huo e he]; omega)) (g r hr) (fun e => hu (z_dvd.mp e)) hx).mpr (g i hi) S
