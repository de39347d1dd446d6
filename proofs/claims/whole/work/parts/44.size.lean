/-! sizes: a primitive row is no longer than any row of which it is a part -/
theorem rg_lin {V : Nat → Int} {b n : Nat} {d A : Int} (h : ∀ j, j < n → d ∣ A * V (b + j)) : d ∣ A * (rg V b n : Int) := by
  induction n with
  | zero => simp [rg]
  | succ n ih =>
    simp only [rg]
    have h1 := ih (fun j hj => h j (by omega))
    have h2 := h n (by omega)
    have h3 : d ∣ (Int.gcd (A * (rg V b n : Int)) (A * V (b + n)) : Int) := Int.dvd_coe_gcd h1 h2
    rw [Int.gcd_mul_left] at h3
    have h4 : ((A.natAbs * Int.gcd (rg V b n) (V (b + n)) : Nat) : Int) = (A.natAbs : Int) * (Int.gcd (rg V b n) (V (b + n)) : Int) := Int.natCast_mul _ _
    rw [h4] at h3
    rcases Int.natAbs_eq A with e | e
    · rw [← e] at h3; exact h3
    · rw [e, Int.neg_mul]; exact Int.dvd_neg.mpr h3
theorem prim_bd {E w : Nat → Int} {b n : Nat} {A B : Int} (hA : A ≠ 0) (hB : B ≠ 0) (h : ∀ j, j < n → A * E (b + j) = B * w j) (hp : rg E b n = 1) : ∀ j, j < n → (E (b + j)).natAbs ≤ (w j).natAbs := by
  have h1 : B ∣ A * (rg E b n : Int) := rg_lin (fun j hj => ⟨w j, h j hj⟩)
  rw [hp] at h1
  obtain ⟨k, hk⟩ := h1
  have hk2 : A = B * k := by simpa using hk
  intro j hj
  have h2 := h j hj
  rw [hk2, Int.mul_assoc] at h2
  have h3 : w j = k * E (b + j) := (Int.eq_of_mul_eq_mul_left hB h2).symm
  have k0 : k ≠ 0 := by intro e; rw [e] at hk2; simp at hk2; exact hA hk2
  rw [h3, Int.natAbs_mul]
  have : 1 ≤ k.natAbs := by omega
  exact Nat.le_mul_of_pos_left _ this
theorem sm_bd {n : Nat} {f : Nat → Int} {C : Nat} (h : ∀ e, e < n → (f e).natAbs ≤ C) : (sm n f).natAbs ≤ n * C := by
  induction n with
  | zero => simp [sm]
  | succ n ih =>
    simp only [sm]
    have h1 := ih (fun e he => h e (by omega))
    have h2 := h n (by omega)
    have h3 := Int.natAbs_add_le (sm n f) (f n)
    rw [Nat.succ_mul]
    omega
theorem sg_abs (S e : Nat) : (sg S e).natAbs = 1 := by
  rcases sg_or S e with h | h <;> rw [h] <;> rfl
theorem wd_bd {n : Nat} {a w : Nat → Int} {C M : Nat} (ha : ∀ e, e < n → (a e).natAbs ≤ C) (hw : ∀ T, (w T).natAbs ≤ M) (S : Nat) : (wd n a w S).natAbs ≤ n * (C * M) := by
  unfold wd
  refine sm_bd (fun e he => ?_)
  split
  · rw [Int.natAbs_mul, Int.natAbs_mul, sg_abs, Nat.one_mul]
    exact Nat.mul_le_mul (ha e he) (hw _)
  · simp
theorem wl_bd {n : Nat} {C : Nat} {rs : List (Nat → Int)} (h : ∀ r ∈ rs, ∀ e, e < n → (r e).natAbs ≤ C) (S : Nat) : (wl n rs S).natAbs ≤ (n * C) ^ rs.length := by
  induction rs generalizing S with
  | nil => simp only [wl, vac]; split <;> simp
  | cons r rs ih =>
    simp only [wl, List.length_cons]
    have h1 := wd_bd (n := n) (h r List.mem_cons_self) (fun T => ih (fun q hq => h q (List.mem_cons_of_mem _ hq)) T) S
    rw [Nat.pow_succ, Nat.mul_comm ((n * C) ^ rs.length), Nat.mul_assoc]
    exact h1
/-- finer, for forms of one degree: zero at sets of another size -/
theorem wl_deg {n : Nat} {rs : List (Nat → Int)} {S : Nat} (hS : S < 2 ^ n) (h : cnt n S.testBit ≠ rs.length) : wl n rs S = 0 := by
  induction rs generalizing S with
  | nil =>
    simp only [wl, vac]
    rw [if_neg]
    intro e
    subst e
    apply h
    have : ∀ n, cnt n (Nat.testBit 0) = 0 := by
      intro n
      induction n with
      | zero => rfl
      | succ n ih => simp only [cnt]; rw [ih]; simp
    rw [this]; rfl
  | cons r rs ih =>
    simp only [wl]
    unfold wd
    refine sm_z (fun e he => ?_)
    by_cases q : S.testBit e = true
    · rw [if_pos q]
      have c1 := cnt_tg he S
      rw [q] at c1
      simp at c1
      rw [ih (tg_lt hS he) (by simp only [List.length_cons] at h; omega)]
      simp
    · rw [if_neg q]
def fbd (C : Nat) : Nat → Nat
  | 0 => 1
  | k + 1 => (k + 1) * (C * fbd C k)
theorem sm_bdc {n : Nat} {f : Nat → Int} {g : Nat → Bool} {C : Nat} (h : ∀ e, e < n → (f e).natAbs ≤ if g e = true then C else 0) : (sm n f).natAbs ≤ cnt n g * C := by
  induction n with
  | zero => simp [sm, cnt]
  | succ n ih =>
    simp only [sm, cnt]
    have h1 := ih (fun e he => h e (by omega))
    have h2 := h n (by omega)
    have h3 := Int.natAbs_add_le (sm n f) (f n)
    by_cases q : g n = true
    · rw [if_pos q] at h2
      rw [if_pos q, Nat.add_mul, Nat.one_mul]; omega
    · rw [if_neg q] at h2
      rw [if_neg q, Nat.add_zero]; omega
theorem wl_fbd {n : Nat} {C : Nat} {rs : List (Nat → Int)} (h : ∀ r ∈ rs, ∀ e, e < n → (r e).natAbs ≤ C) {S : Nat} (hS : S < 2 ^ n) : (wl n rs S).natAbs ≤ fbd C rs.length := by
  induction rs generalizing S with
  | nil => simp only [wl, vac]; split <;> simp [fbd]
  | cons r rs ih =>
    by_cases hd : cnt n S.testBit = rs.length + 1
    · simp only [wl, List.length_cons, fbd]
      unfold wd
      rw [← hd]
      refine sm_bdc (fun e he => ?_)
      by_cases q : S.testBit e = true
      · rw [if_pos q, if_pos q, Int.natAbs_mul, Int.natAbs_mul, sg_abs, Nat.one_mul]
        exact Nat.mul_le_mul (h r List.mem_cons_self e he) (ih (fun q hq => h q (List.mem_cons_of_mem _ hq)) (tg_lt hS he))
      · rw [if_neg q, if_neg q]; simp
    · rw [wl_deg hS (by simpa using hd)]
      simp
