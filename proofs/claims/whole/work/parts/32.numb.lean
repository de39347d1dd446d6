/-! comparing, small numbers -/
theorem nv_up {d e : Nat → Int32} {j k : Nat} (hj : j ≤ k) (h : ∀ i, j ≤ i → i < k → d i = e i) : nv d k - nv e k = nv d j - nv e j := by
  induction k with
  | zero => have : j = 0 := by omega
            subst this; rfl
  | succ k ih =>
    by_cases q : j = k + 1
    · subst q; rfl
    · simp only [nv]
      rw [h k (by omega) (by omega)]
      have := ih (by omega) (fun i a b => h i a (by omega))
      omega
theorem nv_dl {d e : Nat → Int32} {j : Nat} (hd : dg d (j + 1)) (he : dg e (j + 1)) (h : (d j).toInt < (e j).toInt) : nv d (j + 1) < nv e (j + 1) := by
  simp only [nv]
  have h1 := nv_lt (dg_le hd (Nat.le_succ j))
  have h2 := nv_nn (dg_le he (Nat.le_succ j))
  have h3 : ((d j).toInt + 1) * 65536 ^ j ≤ (e j).toInt * 65536 ^ j := Int.mul_le_mul_of_nonneg_right (by omega) (Int.le_of_lt (pw_pos j))
  rw [Int.add_mul] at h3
  omega
/-- one below a count, as the machine has it -/
def vj : Nat → Int32
  | 0 => -1
  | i + 1 => nI i
theorem vj_pred (i : Nat) : vj (i + 1) + (-1) = vj i := by
  cases i with
  | zero => rfl
  | succ i => exact pk_m1 i
theorem vj_sub (k : Nat) : nI k - 1 = vj k := by
  cases k with
  | zero => rfl
  | succ k => exact nI_pred k
theorem vj_neg {k : Nat} (h : k ≤ 2 ^ 30) : vj k < 0 ↔ k = 0 := by
  cases k with
  | zero => simp [vj]
  | succ k => simp only [vj]; constructor
              · intro h1; exact absurd h1 (nI_pos (by omega))
              · intro h1; omega
theorem vj_nn {k : Nat} (h : k ≤ 2 ^ 30) : 0 ≤ vj k ↔ k ≠ 0 := by
  cases k with
  | zero => simp [vj]
  | succ k => simp only [vj]; constructor
              · intro _ h1; omega
              · intro _; exact nI_pos' (by omega)
theorem pw_mono {k j : Nat} (h : k ≤ j) : (65536 : Int) ^ k ≤ 65536 ^ j := by
  induction h with
  | refl => exact Int.le_refl _
  | step h ih => rw [Int.pow_succ]; have := pw_pos k; omega
def cmpr (r : Int32) (a b : Int) : Prop := (r = 0 ∧ a = b) ∨ (r = 1 ∧ b < a) ∨ (r = -1 ∧ a < b)
theorem nv_mono_len {d e : Nat → Int32} {k l : Nat} (hd : dg d k) (he : dg e l) (hte : nt e l) (h : k < l) : nv d k < nv e l := by
  obtain ⟨j, rfl⟩ : ∃ j, l = j + 1 := ⟨l - 1, by omega⟩
  have h1 := nv_lt hd
  have h2 := nv_top he (hte (by omega))
  have h3 : (65536 : Int) ^ k ≤ 65536 ^ j := pw_mono (by omega)
  omega
theorem cs_ok {k l : Nat} {d e : Nat → Int32} (hk : k ≤ 160) (hl : l ≤ 160) (hd : dg d k) (he : dg e l) (htd : nt d k) (hte : nt e l) : ok (f_N_compareSize (nI k) 160 d (nI l) 160 e) (fun r => cmpr r (nv d k) (nv e l)) := by
  unfold f_N_compareSize
  refine ok_if (fun c => ?_) (fun c => ?_)
  · have e0 : k = l := (nI_eq (by omega) (by omega)).mp c
    subst e0
    refine ok_nm (fun y hy => ?_)
    rw [vj_sub] at hy
    subst hy
    refine ok_jn (fun kk => ∀ j, j ≤ k → (∀ i, j ≤ i → i < k → d i = e i) → (∀ q, j = q + 1 → d q ≠ e q) → ok (kk (vj j)) (fun r => cmpr r (nv d k) (nv e k))) ?_ ?_
    · intro j hj hs hne
      have hup := nv_up hj hs
      refine ok_if (fun c => ?_) (fun c => ?_)
      · have j0 := (vj_nn (by omega)).mp c
        obtain ⟨q, rfl⟩ : ∃ q, j = q + 1 := ⟨j - 1, by omega⟩
        have hv : vj (q + 1) = nI q := rfl
        refine ok_in (by rw [hv]; exact vp_in_nI (by omega) (by decide)) (ok_in (by rw [hv]; exact vp_in_nI (by omega) (by decide)) ?_)
        have hqne := hne q rfl
        refine ok_if (fun c2 => ?_) (fun c2 => ?_) <;> rw [hv, nI_clamp (by omega)] at c2
        · refine ok_some (Or.inr (Or.inl ⟨rfl, ?_⟩))
          have h5 : (e q).toInt ≤ (d q).toInt := Int32.le_iff_toInt_le.mp c2
          have h6 : (e q).toInt ≠ (d q).toInt := fun h => hqne (Int32.toInt_inj.mp h.symm)
          have := nv_dl (dg_le he hj) (dg_le hd hj) (by omega)
          omega
        · refine ok_some (Or.inr (Or.inr ⟨rfl, ?_⟩))
          have h5 : ¬ (e q).toInt ≤ (d q).toInt := fun h => c2 (Int32.le_iff_toInt_le.mpr h)
          have := nv_dl (dg_le hd hj) (dg_le he hj) (by omega)
          omega
      · have j0 : j = 0 := by
          rcases Nat.eq_zero_or_pos j with h | h
          · exact h
          · exact absurd ((vj_nn (by omega)).mpr (by omega)) c
        subst j0
        refine ok_some (Or.inl ⟨rfl, ?_⟩)
        simp only [nv] at hup
        omega
    · intro kk hC
      refine lo1_F (fun w => ∃ j, j ≤ k ∧ w = vj j ∧ ∀ i, j ≤ i → i < k → d i = e i) (fun w => (w.toInt + 1).toNat) ?_ ⟨k, Nat.le_refl k, rfl, fun i h1 h2 => absurd h1 (by omega)⟩ ?_
      · rintro kr w ⟨j, hj, rfl, hs⟩ ih
        refine ok_if (fun c => ?_) (fun c => ?_)
        · have j0 := (vj_neg (by omega)).mp c
          subst j0
          exact hC 0 hj hs (fun q h => by omega)
        · have j0 : j ≠ 0 := fun h => c ((vj_neg (by omega)).mpr h)
          obtain ⟨q, rfl⟩ : ∃ q, j = q + 1 := ⟨j - 1, by omega⟩
          have hv : vj (q + 1) = nI q := rfl
          refine ok_in (by rw [hv]; exact vp_in_nI (by omega) (by decide)) (ok_in (by rw [hv]; exact vp_in_nI (by omega) (by decide)) ?_)
          refine ok_if (fun c2 => ?_) (fun c2 => ?_)
          · rw [hv, nI_clamp (by omega)] at c2
            refine ok_nm (fun y hy => ?_)
            rw [vj_pred] at hy
            subst hy
            refine ih (vj q) ⟨q, by omega, rfl, fun i h1 h2 => ?_⟩ ?_
            · by_cases h3 : i = q
              · subst h3; exact c2
              · exact hs i (by omega) h2
            · rw [hv, nI_toInt (by omega)]
              cases q with
              | zero => simp [vj]
              | succ q => simp only [vj]; rw [nI_toInt (by omega)]; omega
          · rw [hv, nI_clamp (by omega)] at c2
            exact hC (q + 1) hj hs (fun q' h => by
              have : q' = q := by omega
              subst this; exact c2)
      · cases k with
        | zero => simp [vj]
        | succ k => simp only [vj]; rw [nI_toInt (by omega)]; omega
  · have hne : k ≠ l := fun h => c (by rw [h])
    refine ok_if (fun c2 => ?_) (fun c2 => ?_)
    · have := (nI_leI (by omega) (by omega)).mp c2
      exact ok_some (Or.inr (Or.inl ⟨rfl, nv_mono_len he hd htd (by omega)⟩))
    · have : ¬ l ≤ k := fun h => c2 ((nI_leI (by omega) (by omega)).mpr h)
      exact ok_some (Or.inr (Or.inr ⟨rfl, nv_mono_len hd he hte (by omega)⟩))
