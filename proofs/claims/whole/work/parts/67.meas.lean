/-! free sets and ranks, of any family of bases -/
def cn (S : Nat) : Nat := cnt 12 S.testBit
def sub (I S : Nat) : Prop := ∀ e, I.testBit e = true → S.testBit e = true
/-- S lies in a set T of N columns with cv T not 0 -/
def Fr (N : Nat) (cv : Nat → Int32) (S : Nat) : Prop := ∃ T, T < 2 ^ N ∧ cv T ≠ 0 ∧ sub S T
def IsRk (N : Nat) (cv : Nat → Int32) (S k : Nat) : Prop := (∃ I, sub I S ∧ Fr N cv I ∧ cn I = k) ∧ ∀ I, sub I S → Fr N cv I → cn I ≤ k
theorem IsRk_un {N : Nat} {cv : Nat → Int32} {S k l : Nat} (h : IsRk N cv S k) (h' : IsRk N cv S l) : k = l := by
  obtain ⟨⟨I, a1, a2, a3⟩, a4⟩ := h
  obtain ⟨⟨J, b1, b2, b3⟩, b4⟩ := h'
  have := a4 J b1 b2
  have := b4 I a1 a2
  omega
theorem lt_bit {S N : Nat} (h : S < 2 ^ N) {e : Nat} (he : S.testBit e = true) : e < N := by
  rcases Nat.lt_or_ge e N with q | q
  · exact q
  · have := Nat.testBit_lt_two_pow (Nat.lt_of_lt_of_le h (Nat.pow_le_pow_right (by decide) q))
    rw [this] at he; cases he
theorem sub_lt {I S N : Nat} (h : sub I S) (hS : S < 2 ^ N) : I < 2 ^ N := by
  rcases Nat.lt_or_ge I (2 ^ N) with q | q
  · exact q
  · exfalso
    obtain ⟨e, he1, he2⟩ := Nat.exists_ge_and_testBit_of_ge_two_pow q
    have := lt_bit hS (h e he2)
    omega
theorem cnt_ext {f : Nat → Bool} {N M : Nat} (h : N ≤ M) (hf : ∀ e, N ≤ e → e < M → f e = false) : cnt M f = cnt N f := by
  induction M with
  | zero => have : N = 0 := by omega
            rw [this]
  | succ M ih =>
    by_cases q : N = M + 1
    · rw [q]
    · simp only [cnt]
      rw [ih (by omega) (fun e h1 h2 => hf e h1 (by omega)), hf M (by omega) (by omega)]
      simp
theorem cn_N {S N : Nat} (h : S < 2 ^ N) (hN : N ≤ 12) : cnt N S.testBit = cn S := by
  unfold cn
  refine (cnt_ext hN (fun e h1 _ => ?_)).symm
  cases q : S.testBit e with
  | false => rfl
  | true => have := lt_bit h q; omega
theorem cnt_bd {f : Nat → Bool} {N : Nat} : cnt N f ≤ N := by
  induction N with
  | zero => exact Nat.le_refl _
  | succ N ih => simp only [cnt]; split <;> omega
theorem cn_le (S : Nat) : cn S ≤ 12 := cnt_bd
theorem sub_rfl (S : Nat) : sub S S := fun _ h => h
theorem sub_tr {I J K : Nat} (h : sub I J) (h2 : sub J K) : sub I K := fun e q => h2 e (h e q)
theorem sub_cn {I S : Nat} (h : sub I S) : cn I ≤ cn S := cnt_le (fun e _ => h e)
theorem Fr_sub {N : Nat} {cv : Nat → Int32} {I S : Nat} (h : sub I S) (hS : Fr N cv S) : Fr N cv I := by
  obtain ⟨T, h1, h2, h3⟩ := hS
  exact ⟨T, h1, h2, sub_tr h h3⟩
theorem sub_ne {I S N : Nat} (hS : S < 2 ^ N) (h : sub I S) (hne : I ≠ S) : ∃ e, e < N ∧ S.testBit e = true ∧ I.testBit e = false := by
  apply Classical.byContradiction
  intro hc
  apply hne
  apply Nat.eq_of_testBit_eq
  intro e
  cases q : S.testBit e with
  | true =>
    cases q2 : I.testBit e with
    | true => rfl
    | false => exact absurd ⟨e, lt_bit hS q, q, q2⟩ hc
  | false =>
    cases q2 : I.testBit e with
    | false => rfl
    | true => rw [h e q2] at q; cases q
theorem sub_tg {I S e : Nat} (h : sub I S) (he : I.testBit e = false) : sub I (tg S e) := by
  intro x hx
  by_cases q : e = x
  · subst q; rw [he] at hx; cases hx
  · rw [tg_ne q]; exact h x hx
theorem tg_sub {S e : Nat} (he : S.testBit e = true) : sub (tg S e) S := by
  intro x hx
  by_cases q : e = x
  · subst q; exact he
  · rw [tg_ne q] at hx; exact hx
theorem sub_up {S e : Nat} (he : S.testBit e = false) : sub S (tg S e) := by
  intro x hx
  by_cases q : e = x
  · subst q; rw [he] at hx; cases hx
  · rw [tg_ne q]; exact hx
theorem tg_or {S e : Nat} (he : S.testBit e = false) : S ||| 2 ^ e = tg S e := by
  apply Nat.eq_of_testBit_eq
  intro x
  rw [Nat.testBit_or, Nat.testBit_two_pow, tg_bit]
  by_cases q : e = x
  · subst q; rw [he]; simp
  · simp [q]
theorem tg_nself {S e : Nat} : tg S e ≠ S := by
  intro h
  have h2 := tg_self S e
  rw [h] at h2
  cases q : S.testBit e <;> rw [q] at h2 <;> cases h2
theorem sub_le {I S : Nat} (h : sub I S) : I ≤ S := Nat.le_of_testBit h
theorem tg_gt {S e : Nat} (he : S.testBit e = false) : S < tg S e := by
  have h1 := sub_le (sub_up he)
  have h2 := tg_nself (S := S) (e := e)
  omega
theorem tg_dn {S e : Nat} (he : S.testBit e = true) : tg S e < S := by
  have h1 := sub_le (tg_sub he)
  have h2 := tg_nself (S := S) (e := e)
  omega
theorem Fr_rec {N : Nat} {cv : Nat → Int32} {S : Nat} (hS : S < 2 ^ N) : Fr N cv S ↔ (cv S ≠ 0 ∨ ∃ e, e < N ∧ S.testBit e = false ∧ Fr N cv (tg S e)) := by
  constructor
  · rintro ⟨T, h1, h2, h3⟩
    by_cases q : S = T
    · subst q; exact Or.inl h2
    · obtain ⟨e, e1, e2, e3⟩ := sub_ne h1 h3 q
      refine Or.inr ⟨e, e1, e3, T, h1, h2, fun x hx => ?_⟩
      by_cases q2 : e = x
      · subst q2; exact e2
      · rw [tg_ne q2] at hx; exact h3 x hx
  · rintro (h | ⟨e, e1, e2, e3⟩)
    · exact ⟨S, hS, h, sub_rfl S⟩
    · exact Fr_sub (sub_up e2) e3
theorem IsRk_rec {N : Nat} {cv : Nat → Int32} {S k : Nat} (hS : S < 2 ^ N) (h0 : Fr N cv 0) (ρ : Nat → Nat) (hρ : ∀ e, e < N → S.testBit e = true → IsRk N cv (tg S e) (ρ e)) (h1 : Fr N cv S → cn S ≤ k) (h2 : ∀ e, e < N → S.testBit e = true → ρ e ≤ k) (h3 : (Fr N cv S ∧ k = cn S) ∨ (∃ e, e < N ∧ S.testBit e = true ∧ k = ρ e) ∨ k = 0) : IsRk N cv S k := by
  constructor
  · rcases h3 with ⟨h3, rfl⟩ | ⟨e, e1, e2, rfl⟩ | rfl
    · exact ⟨S, sub_rfl S, h3, rfl⟩
    · obtain ⟨⟨I, i1, i2, i3⟩, -⟩ := hρ e e1 e2
      exact ⟨I, sub_tr i1 (tg_sub e2), i2, i3⟩
    · refine ⟨0, fun e he => ?_, h0, ?_⟩
      · rw [Nat.zero_testBit] at he; cases he
      · have : ∀ n, cnt n (Nat.testBit 0) = 0 := by
          intro n
          induction n with
          | zero => rfl
          | succ n ih => simp only [cnt]; rw [ih]; simp
        exact this 12
  · intro I hI hF
    by_cases q : I = S
    · subst q; exact h1 hF
    · obtain ⟨e, e1, e2, e3⟩ := sub_ne hS hI q
      have := (hρ e e1 e2).2 I (sub_tg hI e3) hF
      have := h2 e e1 e2
      omega
/-- the first value not 0 in the order -/
def fs (N : Nat) (os : Nat → Nat) (cv : Nat → Int32) : Nat → Int32
  | 0 => 0
  | k + 1 => if os k < 2 ^ N then (if fs N os cv k = 0 then cv (os k) else fs N os cv k) else fs N os cv k
theorem fs_st {N : Nat} {os : Nat → Nat} {cv : Nat → Int32} {k j : Nat} (hkj : k ≤ j) (h : fs N os cv k ≠ 0) : fs N os cv j = fs N os cv k := by
  induction j with
  | zero => have : k = 0 := by omega
            rw [this]
  | succ j ih =>
    by_cases q : k = j + 1
    · rw [q]
    · have := ih (by omega)
      simp only [fs]
      rw [this, if_neg h]
      split <;> rfl
theorem fs_at {N : Nat} {os : Nat → Nat} {cv : Nat → Int32} {k M : Nat} (hk : k < M) (hN : os k < 2 ^ N) : cv (os k) * fs N os cv (k + 1) = cv (os k) * fs N os cv M := by
  by_cases q : cv (os k) = 0
  · rw [q, Int32.zero_mul, Int32.zero_mul]
  · have h : fs N os cv (k + 1) ≠ 0 := by
      simp only [fs]
      rw [if_pos hN]
      by_cases q2 : fs N os cv k = 0
      · rw [if_pos q2]; exact q
      · rw [if_neg q2]; exact q2
    rw [fs_st (j := M) (by omega) h]
def tv (x : Int32) : Prop := x = 0 ∨ x = 1 ∨ x = -1
theorem tv_mul {x y : Int32} (hx : tv x) (hy : tv y) : tv (x * y) := by
  unfold tv at *
  rcases hx with rfl | rfl | rfl <;> rcases hy with rfl | rfl | rfl <;> decide
theorem tv_nar {x : Int32} (hx : tv x) : vp_nar .byte x.toInt8.toInt32 = x := by
  rcases hx with rfl | rfl | rfl <;> rfl
theorem fs_tv {N : Nat} {os : Nat → Nat} {cv : Nat → Int32} (h : ∀ S, tv (cv S)) (k : Nat) : tv (fs N os cv k) := by
  induction k with
  | zero => exact Or.inl rfl
  | succ k ih =>
    simp only [fs]
    split
    · split
      · exact h _
      · exact ih
    · exact ih
