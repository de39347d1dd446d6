/-! reduce, field 0: what holds while columns are gone through -/
theorem z_dvd {a : Int} : ((0 : Nat) : Int) ∣ a ↔ a = 0 := Int.zero_dvd
theorem wd_cg {n : Nat} {a b w : Nat → Int} (h : ∀ e, e < n → a e = b e) (S : Nat) : wd n a w S = wd n b w S := by
  have := wd_eq3 (a' := a) (a := b) (b := b) (w := w) (g := 1) (x := 1) (y := 0) (fun e he => by rw [h e he]; omega) S
  omega
theorem Ez_cg {n rows r : Nat} {pv : Nat → Nat} {E E' O : Nat → Nat → Int} (h : Ez n rows r pv E O) (he : ∀ i, i < rows → ∀ e, e < n → E' i e = E i e) : Ez n rows r pv E' O := by
  obtain ⟨h1, h2, h3, h4, h5, h6, h7, h8⟩ := h
  refine ⟨h1, h2, h3, ?_, ?_, h6, ?_, ?_⟩
  · intro i j hi hj hij
    rw [he i hi _ (h2 j hj)]; exact h4 i j hi hj hij
  · intro i hi
    rw [he i (by omega) _ (h2 i hi)]; exact h5 i hi
  · intro i hi S
    rw [wd_cg (he i (by omega))]; exact h7 i hi S
  · intro i hi hi2
    obtain ⟨u, v, hu, hv, huv⟩ := h8 i hi hi2
    exact ⟨u, v, hu, hv, fun S => by rw [wd_cg (he i hi2)]; exact huv S⟩
theorem rg_cg {a b : Nat → Int} {n : Nat} (h : ∀ e, e < n → a e = b e) : rg a 0 n = rg b 0 n := rg_congr (fun j hj => by rw [Nat.zero_add]; exact h j hj)
theorem rg_0dvd {U : Nat → Int} {n j : Nat} (hj : j < n) : (rg U 0 n : Int) ∣ U j := by
  have := rg_dvd (V := U) (b := 0) hj
  rwa [Nat.zero_add] at this
theorem rg_tdiv {U X : Nat → Int} {n : Nat} (hX : ∀ j, j < n → X j = (U j).tdiv (rg U 0 n)) (hg : rg U 0 n ≠ 0) : rg X 0 n = 1 := by
  have hm : ∀ j, j < n → (rg U 0 n : Int) * X j = U j := fun j hj => by rw [hX j hj]; exact Int.mul_tdiv_cancel' (rg_0dvd hj)
  have h1 : ((rg U 0 n : Int) * (rg X 0 n : Int)) ∣ 1 * (rg U 0 n : Int) := by
    refine rg_lin (fun j hj => ?_)
    rw [Nat.zero_add, Int.one_mul, ← hm j hj]
    exact Int.mul_dvd_mul_left _ (rg_0dvd hj)
  rw [Int.one_mul] at h1
  obtain ⟨k, hk⟩ := h1
  have hg' : (rg U 0 n : Int) ≠ 0 := by omega
  have h2 : (rg X 0 n : Int) * k = 1 := by
    have : (rg U 0 n : Int) * ((rg X 0 n : Int) * k) = (rg U 0 n : Int) * 1 := by rw [← Int.mul_assoc, ← hk, Int.mul_one]
    exact Int.eq_of_mul_eq_mul_left hg' this
  have h3 : (rg X 0 n : Int) ∣ 1 := ⟨k, h2.symm⟩
  have h4 : rg X 0 n ∣ 1 := Int.natCast_dvd_natCast.mp (by simpa using h3)
  exact Nat.dvd_one.mp h4
theorem Tk_op {n c k i : Nat} {V V' : Nat → Int} (h : Tk n c k V V' i) (hp : V (12 * k + c) ≠ 0) : ∃ g : Int, g ≠ 0 ∧ ∀ e, e < n → g * V' (12 * i + e) = V (12 * k + c) * V (12 * i + e) - V (12 * i + c) * V (12 * k + e) := by
  rcases h with ⟨h1, h2⟩ | ⟨h1, U, h2, h3⟩
  · exact ⟨V (12 * k + c), hp, fun e he => by rw [h2 e he, h1]; omega⟩
  · by_cases q : rg U 0 n = 0
    · refine ⟨1, by decide, fun e he => ?_⟩
      have h4 := rg_0dvd (U := U) he
      rw [q] at h4
      have h5 : U e = 0 := z_dvd.mp h4
      have h6 := h2 e he
      rw [h3 e he, h5, Int.zero_tdiv]
      rw [h5] at h6
      rw [Int.mul_comm (V (12 * k + c)), Int.mul_comm (V (12 * i + c))]
      omega
    · refine ⟨(rg U 0 n : Int), by omega, fun e he => ?_⟩
      rw [h3 e he, Int.mul_tdiv_cancel' (rg_0dvd he), h2 e he, Int.mul_comm (V (12 * k + c)), Int.mul_comm (V (12 * i + c))]
def Rs (n rows c r C : Nat) (pv : Nat → Nat) (A : Nat → Nat → Int) (V : Nat → Int) : Prop :=
  ∃ O : Nat → Nat → Int, Ez n rows r pv (fun i j => V (12 * i + j)) O ∧ (∀ k, k < rows → ∀ e, e < n → (O k e).natAbs ≤ C) ∧
  (∀ i, i < rows → rg (fun j => V (12 * i + j)) 0 n = 1 ∨ ∀ e, e < n → (V (12 * i + e)).natAbs ≤ C) ∧
  (∀ i, r ≤ i → i < rows → ∀ j, j < c → V (12 * i + j) = 0) ∧ (∀ i, i < r → pv i < c) ∧ (∀ i j, i < j → j < r → pv i < pv j) ∧
  ∀ w, Kill ((0 : Nat) : Int) n rows (fun i j => V (12 * i + j)) w ↔ Kill ((0 : Nat) : Int) n rows A w
theorem Rs_0 {n rows C : Nat} {pv : Nat → Nat} {V : Nat → Int} (hV : ∀ k, k < rows → ∀ e, e < n → (V (12 * k + e)).natAbs ≤ C) : Rs n rows 0 0 C pv (fun i j => V (12 * i + j)) V :=
  ⟨_, Ez_0, hV, fun i hi => Or.inr (hV i hi), fun _ _ _ j hj => absurd hj (by omega), fun _ hi => absurd hi (by omega), fun _ j _ hj => absurd hj (by omega), fun _ => Iff.rfl⟩
theorem Rs_skip {n rows c r C : Nat} {pv : Nat → Nat} {A : Nat → Nat → Int} {V : Nat → Int} (h : Rs n rows c r C pv A V) (hz : ∀ i, r ≤ i → i < rows → V (12 * i + c) = 0) : Rs n rows (c + 1) r C pv A V := by
  obtain ⟨O, h1, h2, h3, h4, h5, h6, h7⟩ := h
  refine ⟨O, h1, h2, h3, fun i hi hi2 j hj => ?_, fun i hi => ?_, h6, h7⟩
  · by_cases q : j = c
    · rw [q]; exact hz i hi hi2
    · exact h4 i hi hi2 j (by omega)
  · have := h5 i hi; omega
theorem Rs_sz {n rows c r C : Nat} {pv : Nat → Nat} {A : Nat → Nat → Int} {V : Nat → Int} (h : Rs n rows c r C pv A V) (hr : rows ≤ 12) (h1 : 1 ≤ n * C) (h2 : n * C < 65536) {i j : Nat} (hi : i < rows) (hj : j < n) : sz (V (12 * i + j)) 14 := by
  obtain ⟨O, g1, g2, g3, _⟩ := h
  have hr2 : r ≤ rows := g1.1
  have key : (V (12 * i + j)).natAbs ≤ 65536 ^ 13 := by
    rcases g3 i hi with q | q
    · have a1 := Ez_bd g1 g2 h1 hi q j hj
      have a2 : (n * C) ^ (r + 1) ≤ 65536 ^ (r + 1) := Nat.pow_le_pow_left (by omega) _
      have a3 : 65536 ^ (r + 1) ≤ 65536 ^ 13 := Nat.pow_le_pow_right (by decide) (by omega)
      exact Nat.le_trans a1 (Nat.le_trans a2 a3)
    · have a1 := q j hj
      have a2 : C ≤ n * C := Nat.le_mul_of_pos_left C (by omega)
      omega
  unfold sz
  omega
