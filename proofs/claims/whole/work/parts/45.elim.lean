/-! elimination, exactly: what the rows are while pivots are made -/
def ol (O : Nat → Nat → Int) : Nat → List (Nat → Int)
  | 0 => []
  | k + 1 => O k :: ol O k
theorem wd_eq3 {n : Nat} {a' a b w : Nat → Int} {g x y : Int} (h : ∀ e, e < n → g * a' e = x * a e - y * b e) (S : Nat) : g * wd n a' w S = x * wd n a w S - y * wd n b w S := by
  have h1 := wd_lin3 (m := 0) (a' := a') (a := a) (b := b) (g := g) (x := x) (y := y) (w := w) (fun e he => by rw [h e he, Int.sub_self]; exact Int.dvd_zero _) S
  have h2 := Int.zero_dvd.mp h1
  omega
theorem wd_z {n : Nat} {a w : Nat → Int} (h : ∀ S, w S = 0) (S : Nat) : wd n a w S = 0 := by
  unfold wd
  refine sm_z (fun e _ => ?_)
  split
  · rw [h]; simp
  · rfl
theorem wd_mulw {n : Nat} {a w : Nat → Int} (c : Int) (S : Nat) : wd n a (fun T => c * w T) S = c * wd n a w S := by
  unfold wd
  rw [← sm_mul]
  refine sm_congr (fun e _ => ?_)
  by_cases q : S.testBit e = true
  · rw [if_pos q, if_pos q]; grind
  · rw [if_neg q, if_neg q]; simp
theorem wd_self {n : Nat} {a w : Nat → Int} (S : Nat) : wd n a (wd n a w) S = 0 := by
  have := wd_wd n a a w S
  omega
def Ez (n rows r : Nat) (pv : Nat → Nat) (E O : Nat → Nat → Int) : Prop :=
  r ≤ rows ∧ (∀ i, i < r → pv i < n) ∧ (∀ i j, i < r → j < r → pv i = pv j → i = j) ∧
  (∀ i j, i < rows → j < r → i ≠ j → E i (pv j) = 0) ∧ (∀ i, i < r → E i (pv i) ≠ 0) ∧
  wl n (ol O r) (msk n (inP r pv)) ≠ 0 ∧
  (∀ i, i < r → ∀ S, wd n (E i) (wl n (ol O r)) S = 0) ∧
  ∀ i, r ≤ i → i < rows → ∃ u v : Int, u ≠ 0 ∧ v ≠ 0 ∧ ∀ S, u * wd n (E i) (wl n (ol O r)) S = v * wd n (O i) (wl n (ol O r)) S
theorem wd_piv {n r : Nat} {pv : Nat → Nat} {a w : Nat → Int} {c : Nat} (hc : c < n) (hcP : inP r pv c = false) (h0 : ∀ j, j < r → a (pv j) = 0) : wd n a w (tg (msk n (inP r pv)) c) = sg (msk n (inP r pv)) c * a c * w (msk n (inP r pv)) := by
  have hb : (msk n (inP r pv)).testBit c = false := by rw [msk_bit, hcP]; simp
  rw [wd_at hc a w hb, sm_z, Int.add_zero]
  intro e he
  by_cases q : (msk n (inP r pv)).testBit e = true
  · rw [if_pos q]
    rw [msk_bit] at q
    simp at q
    obtain ⟨j, hj, rfl⟩ := inP_iff.mp q.2
    rw [h0 j hj]; simp
  · rw [if_neg q]
theorem msk_up {n r : Nat} {pv : Nat → Nat} {c : Nat} (hc : c < n) (hcP : inP r pv c = false) : msk n (inP (r + 1) (fun j => if j = r then c else pv j)) = tg (msk n (inP r pv)) c := by
  refine bit_ext msk_lt (tg_lt msk_lt hc) (fun e he => ?_)
  rw [msk_bit]
  have key : inP (r + 1) (fun j => if j = r then c else pv j) e = true ↔ (inP r pv e = true ∨ e = c) := by
    rw [inP_iff, inP_iff]
    constructor
    · rintro ⟨i, hi, h⟩
      by_cases q : i = r
      · rw [if_pos q] at h; exact Or.inr h.symm
      · rw [if_neg q] at h; exact Or.inl ⟨i, by omega, h⟩
    · rintro (⟨i, hi, h⟩ | h)
      · exact ⟨i, by omega, by rw [if_neg (by omega)]; exact h⟩
      · exact ⟨r, by omega, by rw [if_pos rfl]; exact h.symm⟩
  by_cases q : e = c
  · subst q
    rw [tg_self, msk_bit, hcP]
    have : inP (r + 1) (fun j => if j = r then e else pv j) e = true := key.mpr (Or.inr rfl)
    rw [this]; simp [he]
  · rw [tg_ne (fun h => q h.symm), msk_bit]
    cases q2 : inP r pv e with
    | true => rw [key.mpr (Or.inl q2)]
    | false =>
      cases q3 : inP (r + 1) (fun j => if j = r then c else pv j) e with
      | false => rfl
      | true =>
        rcases key.mp q3 with q4 | q4
        · rw [q2] at q4; cases q4
        · exact absurd q4 q
theorem Ez_step {n rows r : Nat} {pv : Nat → Nat} {E E' O : Nat → Nat → Int} {c : Nat} (h : Ez n rows r pv E O) (hr : r < rows) (hc : c < n) (hne : E r c ≠ 0) (hE : ∀ e, e < n → E' r e = E r e) (hop : ∀ i, i < rows → i ≠ r → ∃ g : Int, g ≠ 0 ∧ ∀ e, e < n → g * E' i e = E r c * E i e - E i c * E r e) : Ez n rows (r + 1) (fun j => if j = r then c else pv j) E' O := by
  obtain ⟨h1, h2, h3, h4, h5, h6, h7, h8⟩ := h
  have hcP : inP r pv c = false := by
    cases q : inP r pv c with
    | false => rfl
    | true =>
      obtain ⟨j, hj, q2⟩ := inP_iff.mp q
      have := h4 r j hr hj (by omega)
      rw [q2] at this
      exact absurd this hne
  have hcj : ∀ j, j < r → pv j ≠ c := by
    intro j hj e
    have : inP r pv c = true := inP_iff.mpr ⟨j, hj, e⟩
    rw [hcP] at this; cases this
  obtain ⟨u, v, hu, hv, huv⟩ := h8 r (Nat.le_refl r) hr
  generalize hW : wl n (ol O r) = W at *
  have hW' : wl n (ol O (r + 1)) = wd n (O r) W := by simp only [ol, wl]; rw [hW]
  -- row r and the new form
  have hrr : ∀ S, wd n (E r) (wd n (O r) W) S = 0 := by
    intro S
    rw [wd_wd]
    have e1 : u * wd n (O r) (wd n (E r) W) S = 0 := by
      rw [← wd_mulw]
      have e2 : (fun T => u * wd n (E r) W T) = (fun T => v * wd n (O r) W T) := by funext T; exact huv T
      rw [e2, wd_mulw, wd_self]; simp
    rcases Int.mul_eq_zero.mp e1 with q | q
    · exact absurd q hu
    · rw [q]; rfl
  have hcong : ∀ S, wd n (E' r) (wd n (O r) W) S = 0 := by
    intro S
    have := wd_eq3 (a' := E' r) (a := E r) (b := E r) (w := wd n (O r) W) (g := 1) (x := 1) (y := 0) (fun e he => by rw [hE e he]; omega) S
    rw [hrr] at this
    omega
  refine ⟨by omega, ?_, ?_, ?_, ?_, ?_, ?_, ?_⟩
  · intro i hi
    by_cases q : i = r
    · simp only [if_pos q]; exact hc
    · simp only [if_neg q]; exact h2 i (by omega)
  · intro i j hi hj e
    by_cases q : i = r <;> by_cases q2 : j = r
    · omega
    · simp only [if_pos q, if_neg q2] at e; exact absurd e.symm (hcj j (by omega))
    · simp only [if_neg q, if_pos q2] at e; exact absurd e (hcj i (by omega))
    · simp only [if_neg q, if_neg q2] at e; exact h3 i j (by omega) (by omega) e
  · intro i j hi hj hij
    by_cases q : i = r
    · subst q
      have q2 : j ≠ i := fun e => hij e.symm
      simp only [if_neg q2]
      rw [hE _ (h2 j (by omega))]
      exact h4 i j hi (by omega) hij
    · obtain ⟨g, hg, hgo⟩ := hop i hi q
      by_cases q2 : j = r
      · simp only [if_pos q2]
        have := hgo c hc
        have e0 : g * E' i c = 0 := by rw [this, Int.mul_comm]; omega
        rcases Int.mul_eq_zero.mp e0 with q3 | q3
        · exact absurd q3 hg
        · exact q3
      · simp only [if_neg q2]
        have := hgo (pv j) (h2 j (by omega))
        rw [h4 i j hi (by omega) hij, h4 r j hr (by omega) (by omega)] at this
        have e0 : g * E' i (pv j) = 0 := by rw [this]; simp
        rcases Int.mul_eq_zero.mp e0 with q3 | q3
        · exact absurd q3 hg
        · exact q3
  · intro i hi
    by_cases q : i = r
    · subst q
      show E' i (if i = i then c else pv i) ≠ 0
      rw [if_pos rfl, hE c hc]; exact hne
    · simp only [if_neg q]
      obtain ⟨g, hg, hgo⟩ := hop i (by omega) q
      have := hgo (pv i) (h2 i (by omega))
      rw [h4 r i hr (by omega) (by omega)] at this
      intro e
      rw [e] at this
      have e0 : E r c * E i (pv i) = 0 := by rw [Int.mul_zero, Int.mul_zero] at this; omega
      rcases Int.mul_eq_zero.mp e0 with q3 | q3
      · exact hne q3
      · exact h5 i (by omega) q3
  · rw [hW', msk_up hc hcP]
    intro e
    have e1 := huv (tg (msk n (inP r pv)) c)
    rw [e, wd_piv hc hcP (fun j hj => h4 r j hr hj (by omega))] at e1
    rw [Int.mul_zero] at e1
    rcases Int.mul_eq_zero.mp e1 with q | q
    · exact hu q
    · rcases Int.mul_eq_zero.mp q with q | q
      · rcases Int.mul_eq_zero.mp q with q | q
        · rcases sg_or (msk n (inP r pv)) c with q2 | q2 <;> rw [q2] at q <;> cases q
        · exact hne q
      · exact h6 q
  · intro i hi S
    rw [hW']
    by_cases q : i = r
    · subst q; exact hcong S
    · obtain ⟨g, hg, hgo⟩ := hop i (by omega) q
      have e1 := wd_eq3 (w := wd n (O r) W) hgo S
      rw [hrr S] at e1
      have e2 : wd n (E i) (wd n (O r) W) S = 0 := by
        rw [wd_wd, wd_z (h7 i (by omega))]; rfl
      rw [e2] at e1
      have e0 : g * wd n (E' i) (wd n (O r) W) S = 0 := by rw [e1]; simp
      rcases Int.mul_eq_zero.mp e0 with q3 | q3
      · exact absurd q3 hg
      · exact q3
  · intro i hi1 hi2
    obtain ⟨g, hg, hgo⟩ := hop i hi2 (by omega)
    obtain ⟨u2, v2, hu2, hv2, huv2⟩ := h8 i (by omega) hi2
    refine ⟨u2 * g, E r c * v2, Int.mul_ne_zero hu2 hg, Int.mul_ne_zero hne hv2, fun S => ?_⟩
    rw [hW']
    have e1 := wd_eq3 (w := wd n (O r) W) hgo S
    rw [hrr S] at e1
    have e3 : u2 * wd n (E i) (wd n (O r) W) S = v2 * wd n (O i) (wd n (O r) W) S := by
      rw [wd_wd n (E i), wd_wd n (O i)]
      have e4 : u2 * wd n (O r) (wd n (E i) W) S = v2 * wd n (O r) (wd n (O i) W) S := by
        rw [← wd_mulw, ← wd_mulw]
        have e2 : (fun T => u2 * wd n (E i) W T) = (fun T => v2 * wd n (O i) W T) := by funext T; exact huv2 T
        rw [e2]
      grind
    rw [Int.mul_assoc, e1]
    grind
