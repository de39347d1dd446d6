/-! reduce, field 0: the whole method -/
theorem rg_sh {V : Nat → Int} {b n : Nat} : rg V b n = rg (fun j => V (b + j)) 0 n := by
  induction n with
  | zero => rfl
  | succ n ih => simp only [rg]; rw [ih, Nat.zero_add]
theorem wd_0a {n : Nat} {w : Nat → Int} (S : Nat) : wd n (fun _ => 0) w S = 0 := by
  have := wd_eq3 (n := n) (a' := fun _ => 0) (a := fun _ => 0) (b := fun _ => 0) (w := w) (g := 2) (x := 1) (y := 0) (fun e he => by simp) S
  omega
def Rd (n rows R : Nat) (pv : Nat → Nat) (A : Nat → Nat → Int) (V : Nat → Int) : Prop :=
  R ≤ rows ∧ (∀ i, i < R → pv i < n) ∧ (∀ i j, i < j → j < R → pv i < pv j) ∧ (∀ i j, i < R → j < R → i ≠ j → V (12 * i + pv j) = 0) ∧
  (∀ i, i < R → 0 < V (12 * i + pv i)) ∧ (∀ i, i < R → rg (fun j => V (12 * i + j)) 0 n = 1) ∧
  (∀ i j, i < R → j < n → sz (V (12 * i + j)) 14) ∧
  ∀ w, Kill ((0 : Nat) : Int) n R (fun i j => V (12 * i + j)) w ↔ Kill ((0 : Nat) : Int) n rows A w
theorem Rd_of {n rows r C : Nat} {pv : Nat → Nat} {A : Nat → Nat → Int} {W V : Nat → Int} (h : Rs n rows n r C pv A W) (hr : rows ≤ 12) (h1 : 1 ≤ n * C) (h2 : n * C < 65536) (hset : ∀ i, i < r → 0 ≤ V (12 * i + pv i) ∧ ∃ s : Int, (s = 1 ∨ s = -1) ∧ ∀ j, j < n → V (12 * i + j) = s * (W (12 * i + j)).tdiv (rg W (12 * i) n)) : Rd n rows r pv A V := by
  have hsz := fun i j => Rs_sz h hr h1 h2 (i := i) (j := j)
  obtain ⟨O, g1, g2, g3, g4, g5, g6, g7⟩ := h
  obtain ⟨e1, e2, e3, e4, e5, -, -, -⟩ := g1
  have hg : ∀ i, i < r → rg (fun j => W (12 * i + j)) 0 n ≠ 0 := by
    intro i hi e
    have a1 := rg_0dvd (U := fun j => W (12 * i + j)) (e2 i hi)
    rw [e] at a1
    exact e5 i hi (z_dvd.mp a1)
  have hmul : ∀ i, i < r → ∃ s : Int, (s = 1 ∨ s = -1) ∧ (∀ j, j < n → (rg (fun j => W (12 * i + j)) 0 n : Int) * V (12 * i + j) = s * W (12 * i + j)) ∧ ∀ j, j < n → V (12 * i + j) = s * (W (12 * i + j)).tdiv (rg (fun j => W (12 * i + j)) 0 n) := by
    intro i hi
    obtain ⟨-, s, hs, hj⟩ := hset i hi
    rw [rg_sh] at hj
    refine ⟨s, hs, fun j hjn => ?_, hj⟩
    have a1 := Int.mul_tdiv_cancel' (rg_0dvd (U := fun j => W (12 * i + j)) hjn)
    rw [hj j hjn, ← Int.mul_assoc, Int.mul_comm _ s, Int.mul_assoc, a1]
  refine ⟨e1, e2, g6, ?_, ?_, ?_, ?_, ?_⟩
  · intro i j hi hj hij
    obtain ⟨s, hs, -, hd⟩ := hmul i hi
    have a0 : W (12 * i + pv j) = 0 := e4 i j (by omega) hj hij
    rw [hd _ (e2 j hj), a0, Int.zero_tdiv, Int.mul_zero]
  · intro i hi
    obtain ⟨s, hs, hm, -⟩ := hmul i hi
    have a1 := (hset i hi).1
    have a2 : V (12 * i + pv i) ≠ 0 := by
      intro e
      have a3 := hm _ (e2 i hi)
      rw [e, Int.mul_zero] at a3
      have a4 : W (12 * i + pv i) ≠ 0 := e5 i hi
      rcases hs with rfl | rfl <;> omega
    omega
  · intro i hi
    obtain ⟨s, hs, -, hd⟩ := hmul i hi
    have a1 := rg_tdiv (U := fun j => W (12 * i + j)) (X := fun j => (W (12 * i + j)).tdiv (rg (fun j => W (12 * i + j)) 0 n)) (fun j hj => rfl) (hg i hi)
    have a2 : (rg (fun j => V (12 * i + j)) 0 n : Int) ∣ 1 * (rg (fun j => (W (12 * i + j)).tdiv (rg (fun j => W (12 * i + j)) 0 n)) 0 n : Int) := by
      refine rg_lin (fun j hj => ?_)
      rw [Nat.zero_add, Int.one_mul]
      have a3 := rg_0dvd (U := fun j => V (12 * i + j)) hj
      have a4 := hd j hj
      have a5 : (W (12 * i + j)).tdiv (rg (fun j => W (12 * i + j)) 0 n) = s * V (12 * i + j) := by rcases hs with rfl | rfl <;> omega
      rw [a5]
      exact Int.dvd_mul_of_dvd_right a3
    rw [a1] at a2
    have a6 : rg (fun j => V (12 * i + j)) 0 n ∣ 1 := Int.natCast_dvd_natCast.mp (by simpa using a2)
    exact Nat.dvd_one.mp a6
  · intro i j hi hj
    obtain ⟨s, hs, -, hd⟩ := hmul i hi
    have a1 := tdiv_sz (g := rg (fun j => W (12 * i + j)) 0 n) (hsz i j (by omega) hj)
    rw [hd j hj]
    unfold sz at a1 ⊢
    rcases hs with rfl | rfl <;> omega
  · intro w
    rw [← g7 w]
    have hk : ∀ i, i < r → ((∀ S, ((0 : Nat) : Int) ∣ wd n (fun j => V (12 * i + j)) w S) ↔ ∀ S, ((0 : Nat) : Int) ∣ wd n (fun j => W (12 * i + j)) w S) := by
      intro i hi
      obtain ⟨s, hs, hm, -⟩ := hmul i hi
      refine kill_op (m := 0) (Or.inl rfl) (b := fun _ => 0) (g := (rg (fun j => W (12 * i + j)) 0 n : Int)) (x := s) (y := 0) (fun e he => z_dvd.mpr (by rw [hm e he]; omega)) (fun S => by rw [wd_0a]; exact Int.dvd_zero _) (fun e => hg i hi (by have := z_dvd.mp e; omega)) (fun e => by have := z_dvd.mp e; omega)
    constructor
    · intro g i hi
      by_cases q : i < r
      · exact (hk i q).mp (g i q)
      · intro S
        show ((0 : Nat) : Int) ∣ wd n (fun j => W (12 * i + j)) w S
        rw [wd_cg (b := fun _ => 0) (fun e he => g4 i (by omega) hi e he), wd_0a]
        exact Int.dvd_zero _
    · intro g i hi
      exact (hk i hi).mpr (g i (by omega))
