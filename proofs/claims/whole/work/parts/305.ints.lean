/-! ints and longs that do not wrap -/
theorem i_add {a b : Int32} (h1 : -2147483648 ≤ a.toInt + b.toInt) (h2 : a.toInt + b.toInt < 2147483648) : (a + b).toInt = a.toInt + b.toInt := by
  rw [Int32.toInt_add]; exact Int.bmod_eq_of_le_mul_two (by omega) (by omega)
theorem i_sub {a b : Int32} (h1 : -2147483648 ≤ a.toInt - b.toInt) (h2 : a.toInt - b.toInt < 2147483648) : (a - b).toInt = a.toInt - b.toInt := by
  rw [Int32.toInt_sub]; exact Int.bmod_eq_of_le_mul_two (by omega) (by omega)
theorem i_mul {a b : Int32} (h1 : -2147483648 ≤ a.toInt * b.toInt) (h2 : a.toInt * b.toInt < 2147483648) : (a * b).toInt = a.toInt * b.toInt := by
  rw [Int32.toInt_mul]; exact Int.bmod_eq_of_le_mul_two (by omega) (by omega)
theorem l_add {a b : Int64} (h1 : -9223372036854775808 ≤ a.toInt + b.toInt) (h2 : a.toInt + b.toInt < 9223372036854775808) : (a + b).toInt = a.toInt + b.toInt := by
  rw [Int64.toInt_add]; exact Int.bmod_eq_of_le_mul_two (by omega) (by omega)
theorem l_sub {a b : Int64} (h1 : -9223372036854775808 ≤ a.toInt - b.toInt) (h2 : a.toInt - b.toInt < 9223372036854775808) : (a - b).toInt = a.toInt - b.toInt := by
  rw [Int64.toInt_sub]; exact Int.bmod_eq_of_le_mul_two (by omega) (by omega)
theorem l_mul {a b : Int64} (h1 : -9223372036854775808 ≤ a.toInt * b.toInt) (h2 : a.toInt * b.toInt < 9223372036854775808) : (a * b).toInt = a.toInt * b.toInt := by
  rw [Int64.toInt_mul]; exact Int.bmod_eq_of_le_mul_two (by omega) (by omega)
theorem l_neg {a : Int64} (h1 : -9223372036854775808 < a.toInt) : (-a).toInt = -a.toInt := by
  have := Int64.toInt_lt a
  rw [Int64.toInt_neg]; exact Int.bmod_eq_of_le_mul_two (by omega) (by omega)
theorem l_i {x : Int64} (h1 : -2147483648 ≤ x.toInt) (h2 : x.toInt < 2147483648) : x.toInt32.toInt = x.toInt := by
  rw [Int64.toInt_toInt32]; exact Int.bmod_eq_of_le_mul_two (by omega) (by omega)
/-- the digit and what is carried on, of an int that is not below 0 -/
theorem i_dm {a : Int32} (h : 0 ≤ a.toInt) : (a / 65536).toInt = a.toInt / 65536 ∧ (a - a / 65536 * 65536).toInt = a.toInt % 65536 := by
  have e1 : (a / 65536).toInt = a.toInt / 65536 := by
    rw [Int32.toInt_div_of_ne_right a 65536 (by decide), Int.tdiv_eq_ediv_of_nonneg h]; rfl
  have e0 : (65536 : Int32).toInt = 65536 := rfl
  have hl := Int32.toInt_lt a
  have e2 : (a / 65536 * 65536).toInt = a.toInt / 65536 * 65536 := by
    rw [i_mul (by rw [e1, e0]; omega) (by rw [e1, e0]; omega), e1, e0]
  refine ⟨e1, ?_⟩
  rw [i_sub (by rw [e2]; omega) (by rw [e2]; omega), e2]
  omega
theorem l_dm {a : Int64} (h : 0 ≤ a.toInt) : (a / 65536).toInt = a.toInt / 65536 ∧ (a - a / 65536 * 65536).toInt = a.toInt % 65536 := by
  have e1 : (a / 65536).toInt = a.toInt / 65536 := by
    rw [Int64.toInt_div_of_ne_right a 65536 (by decide), Int.tdiv_eq_ediv_of_nonneg h]; rfl
  have e0 : (65536 : Int64).toInt = 65536 := rfl
  have hl := Int64.toInt_lt a
  have e2 : (a / 65536 * 65536).toInt = a.toInt / 65536 * 65536 := by
    rw [l_mul (by rw [e1, e0]; omega) (by rw [e1, e0]; omega), e1, e0]
  refine ⟨e1, ?_⟩
  rw [l_sub (by rw [e2]; omega) (by rw [e2]; omega), e2]
  omega
theorem lc_ge (x : Int64) : (0 ≤ lg_cmp x 0) ↔ 0 ≤ x.toInt := by
  rw [lg_cmp_ge, Int64.le_iff_toInt_le]; exact Iff.rfl
theorem lc_le (x : Int64) : (lg_cmp x 0 ≤ 0) ↔ x.toInt ≤ 0 := by
  unfold lg_cmp
  by_cases h : x > 0
  · rw [if_pos h]
    have : (0 : Int64).toInt < x.toInt := Int64.lt_iff_toInt_lt.mp h
    have e : (0 : Int64).toInt = 0 := rfl
    constructor
    · intro q; exact absurd q (by decide)
    · intro q; omega
  · rw [if_neg h]
    have : ¬ (0 : Int64).toInt < x.toInt := fun q => h (Int64.lt_iff_toInt_lt.mpr q)
    have e : (0 : Int64).toInt = 0 := rfl
    constructor
    · intro _; omega
    · intro _; split <;> decide
theorem lc_eq (x : Int64) : (lg_cmp x 0 = 0) ↔ x.toInt = 0 := by
  have e : (0 : Int64).toInt = 0 := rfl
  unfold lg_cmp
  by_cases h : x > 0
  · rw [if_pos h]
    have : (0 : Int64).toInt < x.toInt := Int64.lt_iff_toInt_lt.mp h
    constructor
    · intro q; exact absurd q (by decide)
    · intro q; omega
  · rw [if_neg h]
    by_cases h2 : x = 0
    · rw [if_pos h2]; subst h2; simp
    · rw [if_neg h2]
      constructor
      · intro q; exact absurd q (by decide)
      · intro q; exact absurd (Int64.toInt_inj.mp (q.trans e.symm)) h2
theorem i_le {a b : Int32} : a ≤ b ↔ a.toInt ≤ b.toInt := Int32.le_iff_toInt_le
theorem i_lt {a b : Int32} : a < b ↔ a.toInt < b.toInt := Int32.lt_iff_toInt_lt
