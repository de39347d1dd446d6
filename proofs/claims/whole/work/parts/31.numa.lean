/-! what a row of digits to the base 65536 is worth -/
def nv (d : Nat → Int32) : Nat → Int
  | 0 => 0
  | k + 1 => nv d k + (d k).toInt * 65536 ^ k
def dg (d : Nat → Int32) (k : Nat) : Prop := ∀ j, j < k → 0 ≤ (d j).toInt ∧ (d j).toInt < 65536
def nt (d : Nat → Int32) (k : Nat) : Prop := 0 < k → d (k - 1) ≠ 0
theorem nv_congr {d e : Nat → Int32} {k : Nat} (h : ∀ j, j < k → d j = e j) : nv d k = nv e k := by
  induction k with
  | zero => rfl
  | succ k ih => simp only [nv]; rw [ih (fun j hj => h j (by omega)), h k (by omega)]
theorem dg_congr {d e : Nat → Int32} {k : Nat} (h : ∀ j, j < k → d j = e j) (hd : dg d k) : dg e k := fun j hj => by rw [← h j hj]; exact hd j hj
theorem dg_le {d : Nat → Int32} {k l : Nat} (h : dg d k) (hl : l ≤ k) : dg d l := fun j hj => h j (by omega)
theorem pw_pos (k : Nat) : (0 : Int) < 65536 ^ k := Int.pow_pos (by decide)
theorem nv_nn {d : Nat → Int32} {k : Nat} (h : dg d k) : 0 ≤ nv d k := by
  induction k with
  | zero => exact Int.le_refl 0
  | succ k ih =>
    simp only [nv]
    exact Int.add_nonneg (ih (dg_le h (Nat.le_succ k))) (Int.mul_nonneg (h k (by omega)).1 (Int.le_of_lt (pw_pos k)))
theorem nv_lt {d : Nat → Int32} {k : Nat} (h : dg d k) : nv d k < 65536 ^ k := by
  induction k with
  | zero => simp [nv]
  | succ k ih =>
    simp only [nv]
    have h1 := ih (dg_le h (Nat.le_succ k))
    have h2 := (h k (by omega)).2
    have h3 : (d k).toInt * 65536 ^ k ≤ 65535 * 65536 ^ k := Int.mul_le_mul_of_nonneg_right (by omega) (Int.le_of_lt (pw_pos k))
    rw [Int.pow_succ]
    omega
theorem nv_top {d : Nat → Int32} {k : Nat} (h : dg d (k + 1)) (ht : d k ≠ 0) : 65536 ^ k ≤ nv d (k + 1) := by
  simp only [nv]
  have h1 := nv_nn (dg_le h (Nat.le_succ k))
  have h2 := (h k (by omega)).1
  have h3 : (d k).toInt ≠ 0 := fun e => ht (Int32.toInt_inj.mp (by rw [e]; rfl))
  have h4 : 1 * 65536 ^ k ≤ (d k).toInt * 65536 ^ k := Int.mul_le_mul_of_nonneg_right (by omega) (Int.le_of_lt (pw_pos k))
  omega
theorem nI_le0 {k : Nat} (h : k < 2 ^ 31) : nI k ≤ 0 ↔ k = 0 := by
  rw [← nI_0, nI_leI h (by decide)]; omega
theorem nI_eq0 {k : Nat} (h : k < 2 ^ 31) : nI k = 0 ↔ k = 0 := by
  rw [← nI_0, nI_eq h (by decide)]
/-- trim: zeros above are dropped -/
theorem tr_ok {k : Nat} {d : Nat → Int32} {mi : Int32} (hk : k ≤ 160) (hm : mi = 0 ∨ mi = 1) : ok (f_N_trim (nI k) mi 160 d) (fun r => ∃ k', k' ≤ k ∧ r.1 = nI k' ∧ nt d k' ∧ nv d k' = nv d k ∧ r.2 = if k' = 0 then 0 else mi) := by
  unfold f_N_trim
  refine ok_jn (fun kk => ∀ k', k' ≤ k → nt d k' → nv d k' = nv d k → ok (kk (nI k')) (fun r => ∃ k', k' ≤ k ∧ r.1 = nI k' ∧ nt d k' ∧ nv d k' = nv d k ∧ r.2 = if k' = 0 then 0 else mi)) ?_ ?_
  · intro k' h1 h2 h3
    refine ok_if (fun c => ?_) (fun c => ?_)
    · refine ok_some ⟨k', h1, rfl, h2, h3, ?_⟩
      rw [c]; split <;> rfl
    · have hm1 : mi = 1 := by rcases hm with h | h; exact absurd h c; exact h
      refine ok_if (fun c2 => ?_) (fun c2 => ?_)
      · have e := (nI_le0 (by omega)).mp c2
        exact ok_some ⟨k', h1, rfl, h2, h3, by rw [if_pos e]⟩
      · have e : k' ≠ 0 := fun e => c2 ((nI_le0 (by omega)).mpr e)
        exact ok_some ⟨k', h1, rfl, h2, h3, by rw [if_neg e, hm1]⟩
  · intro kk hC
    refine lo1_F (fun w => ∃ k', k' ≤ k ∧ w = nI k' ∧ nv d k' = nv d k) (fun w => w.toNatClampNeg) ?_ ⟨k, Nat.le_refl k, rfl, rfl⟩ (by rw [nI_clamp (by omega)]; omega)
    rintro kr w ⟨k', h1, rfl, h3⟩ ih
    refine ok_if (fun c => ?_) (fun c => ?_)
    · have e := (nI_le0 (by omega)).mp c
      subst e
      exact hC 0 h1 (fun h => absurd h (by omega)) h3
    · have e : k' ≠ 0 := fun e => c ((nI_le0 (by omega)).mpr e)
      obtain ⟨j, rfl⟩ : ∃ j, k' = j + 1 := ⟨k' - 1, by omega⟩
      rw [nI_pred]
      refine ok_in (vp_in_nI (by omega) (by decide)) ?_
      rw [nI_clamp (by omega)]
      refine ok_if (fun c2 => ?_) (fun c2 => ?_)
      · refine ih (nI j) ⟨j, by omega, rfl, ?_⟩ (by rw [nI_clamp (by omega), nI_clamp (by omega)]; omega)
        rw [← h3]
        simp only [nv]
        rw [c2]; simp
      · exact hC (j + 1) h1 (fun _ => c2) h3
/-- copy: the digits of the other, what is above stays -/
theorem cp_ok {k : Nat} {d o : Nat → Int32} {mi : Int32} (hk : k ≤ 160) (hm : mi = 0 ∨ mi = 1) : ok (f_N_copy 160 d (nI k) mi 160 o) (fun r => r.1 = nI k ∧ r.2.1 = mi ∧ (∀ j, j < k → r.2.2 j = o j) ∧ ∀ j, k ≤ j → r.2.2 j = d j) := by
  unfold f_N_copy
  refine ok_z hm ?_
  refine lo2_F (fun w x => ∃ i, i ≤ k ∧ w = nI i ∧ (∀ j, j < i → x j = o j) ∧ ∀ j, i ≤ j → x j = d j) (fun w _ => k - w.toNatClampNeg) ?_ ⟨0, Nat.zero_le k, nI_0.symm, fun j hj => absurd hj (by omega), fun j _ => rfl⟩ (by omega)
  rintro kr w x ⟨i, h1, rfl, h3, h4⟩ ih
  refine ok_if (fun c => ?_) (fun c => ?_)
  · have e : i = k := by
      have := (nI_leI (by omega) (by omega)).mp c
      omega
    subst e
    exact ok_some ⟨rfl, rfl, h3, h4⟩
  · have e : i < k := by
      rcases Nat.lt_or_ge i k with q | q
      · exact q
      · exact absurd ((nI_leI (by omega) (by omega)).mpr q) c
    refine ok_in (vp_in_nI (by omega) (by decide)) (ok_in (vp_in_nI (by omega) (by decide)) ?_)
    refine ok_nm (fun y hy => ?_)
    subst hy
    rw [nI_clamp (by omega), nI_1]
    refine ih _ _ ⟨i + 1, e, rfl, fun j hj => ?_, fun j hj => ?_⟩ (by rw [nI_clamp (by omega), nI_clamp (by omega)]; omega)
    · by_cases q : j = i
      · subst q; exact pk_us
      · rw [pk_un q]; exact h3 j (by omega)
    · rw [pk_un (by omega)]; exact h4 j (by omega)
