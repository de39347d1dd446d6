/-! minorOf: rows with a pivot in the set go out, each with its column -/
theorem wl_col0 {N p : Nat} {l : List (Nat → Int)} (h : ∀ a ∈ l, a p = 0) : ∀ S, S.testBit p = true → wl N l S = 0 := by
  induction l with
  | nil =>
    intro S hS
    simp only [wl, vac]
    rw [if_neg]
    intro e
    rw [e, Nat.zero_testBit] at hS; cases hS
  | cons a l ih =>
    intro S hS
    simp only [wl]
    unfold wd
    refine sm_z (fun e he => ?_)
    by_cases q : S.testBit e = true
    · rw [if_pos q]
      by_cases q2 : e = p
      · rw [q2, h a (List.mem_cons_self ..)]; simp
      · rw [ih (fun b hb => h b (List.mem_cons_of_mem _ hb)) (tg S e) (by rw [tg_ne q2]; exact hS)]; simp
    · rw [if_neg q]
theorem wd_only {N p : Nat} {a w : Nat → Int} {S : Nat} (hp : p < N) (hS : S.testBit p = true) (h : ∀ T, T.testBit p = true → w T = 0) : wd N a w S = sg S p * a p * w (tg S p) := by
  unfold wd
  rw [sm_congr (g := fun e => if e = p then sg S p * a p * w (tg S p) else 0) (fun e he => ?_), sm_one hp]
  by_cases q : e = p
  · subst q; rw [if_pos hS, if_pos rfl]
  · rw [if_neg q]
    by_cases q2 : S.testBit e = true
    · rw [if_pos q2, h _ (by rw [tg_ne q]; exact hS)]; simp
    · rw [if_neg q2]
/-- the list without its a-th -/
def dn (t : Nat → Nat) (a : Nat) : Nat → Nat := fun j => if j < a then t j else t (j + 1)
theorem inc_inj {n : Nat} {t : Nat → Nat} (hti : ∀ i j, i < j → j < n → t i < t j) : ∀ i j, i < n → j < n → t i = t j → i = j := by
  intro i j hi hj e
  rcases Nat.lt_trichotomy i j with q | q | q
  · have := hti i j q hj; omega
  · exact q
  · have := hti j i q hi; omega
theorem dn_inc {n a : Nat} {t : Nat → Nat} (hti : ∀ i j, i < j → j < n + 1 → t i < t j) : ∀ i j, i < j → j < n → dn t a i < dn t a j := by
  intro i j hij hj
  unfold dn
  by_cases q1 : i < a
  · by_cases q2 : j < a
    · rw [if_pos q1, if_pos q2]; exact hti i j hij (by omega)
    · rw [if_pos q1, if_neg q2]; exact hti i (j + 1) (by omega) (by omega)
  · rw [if_neg q1, if_neg (by omega)]; exact hti (i + 1) (j + 1) (by omega) (by omega)
theorem dn_in {n a : Nat} {t : Nat → Nat} (ha : a < n + 1) (hti : ∀ i j, i < j → j < n + 1 → t i < t j) (e : Nat) : inP n (dn t a) e = true ↔ (inP (n + 1) t e = true ∧ e ≠ t a) := by
  rw [inP_iff, inP_iff]
  constructor
  · rintro ⟨i, hi, rfl⟩
    unfold dn
    by_cases q : i < a
    · rw [if_pos q]
      exact ⟨⟨i, by omega, rfl⟩, by have := hti i a q ha; omega⟩
    · rw [if_neg q]
      exact ⟨⟨i + 1, by omega, rfl⟩, by have := hti a (i + 1) (by omega) (by omega); omega⟩
  · rintro ⟨⟨i, hi, rfl⟩, hne⟩
    rcases Nat.lt_trichotomy i a with q | q | q
    · exact ⟨i, by omega, by unfold dn; rw [if_pos q]⟩
    · rw [q] at hne; exact absurd rfl hne
    · exact ⟨i - 1, by omega, by unfold dn; rw [if_neg (by omega), show i - 1 + 1 = i by omega]⟩
theorem dn_msk {N n a : Nat} {t : Nat → Nat} (ha : a < n + 1) (hta : t a < N) (hti : ∀ i j, i < j → j < n + 1 → t i < t j) : msk N (inP n (dn t a)) = tg (msk N (inP (n + 1) t)) (t a) := by
  refine bit_ext msk_lt (tg_lt msk_lt hta) (fun e he => ?_)
  have h := dn_in ha hti e
  by_cases q : e = t a
  · subst q
    have h1 : inP n (dn t a) (t a) = false := by
      cases q2 : inP n (dn t a) (t a) with
      | false => rfl
      | true => exact absurd rfl (h.mp q2).2
    have h2 : inP (n + 1) t (t a) = true := inP_iff.mpr ⟨a, ha, rfl⟩
    rw [tg_self, msk_bit, msk_bit, h1, h2]; simp [he]
  · rw [tg_ne (fun e' => q e'.symm), msk_bit, msk_bit]
    cases q2 : inP (n + 1) t e with
    | true => rw [h.mpr ⟨q2, q⟩]
    | false =>
      cases q3 : inP n (dn t a) e with
      | false => rfl
      | true => rw [(h.mp q3).1] at q2; cases q2
theorem sg_at {N n b : Nat} {t : Nat → Nat} (hb : b < n) (htn : ∀ i, i < n → t i < N) (hti : ∀ i j, i < j → j < n → t i < t j) : sg (msk N (inP n t)) (t b) = ps b := by
  rw [sg_ps]
  congr 1
  have h1 : cnt (t b) (msk N (inP n t)).testBit = cnt (t b) (inP b t) := by
    refine cnt_congr (fun e he => ?_)
    have := htn b hb
    rw [msk_bit]
    simp only [show e < N by omega, decide_true, Bool.true_and]
    cases q : inP b t e with
    | true =>
      obtain ⟨i, hi, h2⟩ := inP_iff.mp q
      exact inP_iff.mpr ⟨i, by omega, h2⟩
    | false =>
      cases q2 : inP n t e with
      | false => rfl
      | true =>
        obtain ⟨i, hi, h2⟩ := inP_iff.mp q2
        exfalso
        rcases Nat.lt_or_ge i b with q3 | q3
        · have : inP b t e = true := inP_iff.mpr ⟨i, q3, h2⟩
          rw [q] at this; cases this
        · rcases Nat.eq_or_lt_of_le q3 with q4 | q4
          · rw [← q4] at h2; omega
          · have := hti b i q4 hi; omega
  rw [h1, inP_cnt (fun i hi => hti i b hi hb) (fun i j hi hj => inc_inj hti i j (by omega) (by omega))]
/-- one row and its column out -/
theorem mn_step {N n a b : Nat} {t : Nat → Nat} {O : Nat → Nat → Int} (ha : a < n + 1) (hb : b < n + 1) (htn : ∀ i, i < n + 1 → t i < N) (hti : ∀ i j, i < j → j < n + 1 → t i < t j) (h0 : ∀ i, i < n + 1 → i ≠ a → O i (t b) = 0) : tri (n + 1) * wl N (ol O (n + 1)) (msk N (inP (n + 1) t)) = ps (a + b) * O a (t b) * (tri n * wl N (ol (dl O a) n) (msk N (inP n (dn t b)))) := by
  have hT : (msk N (inP (n + 1) t)).testBit (t b) = true := by
    rw [msk_bit, inP_iff.mpr ⟨b, hb, rfl⟩]; simp [htn b hb]
  rw [ol_front ha, wd_only (htn b hb) hT, sg_at hb htn hti, dn_msk hb (htn b hb) hti]
  · have e1 : ps n = ps (n - a) * ps a := by rw [← ps_add, show n - a + a = n by omega]
    simp only [tri]
    rw [e1, ps_add]
    have e2 := ps_sq (n - a)
    generalize wl N (ol (dl O a) n) (tg (msk N (inP (n + 1) t)) (t b)) = X
    generalize ps (n - a) = u at *
    have e3 : tri n * (u * ps a) * (u * (ps b * O a (t b) * X)) = (u * u) * (tri n * ps a * (ps b * O a (t b) * X)) := by grind
    rw [e3, e2]
    grind
  · refine wl_col0 (fun q hq => ?_)
    obtain ⟨j, hj, rfl⟩ := ol_mem hq
    unfold dl
    by_cases q : j < a
    · rw [if_pos q]; exact h0 j (by omega) (by omega)
    · rw [if_neg q]; exact h0 (j + 1) (by omega) (by omega)
theorem po_ok {w : Nat → Int32} {n v b : Nat} {t : Nat → Nat} (hn : n ≤ 12) (hv : v < 2 ^ 31) (hb : b < n) (htb : t b = v) (ht : ∀ i, i < n → w i = nI (t i) ∧ t i < 2 ^ 31) (hti : ∀ i j, i < j → j < n → t i < t j) : ok (f_R_placeOf 12 w (nI n) (nI v)) (fun r => r = nI b) := by
  unfold f_R_placeOf
  refine lo1_F (fun x => ∃ k : Nat, x = nI k ∧ k ≤ b) (fun x => n - x.toNatClampNeg) ?_ ⟨0, nI_0.symm, Nat.zero_le _⟩ (by omega)
  rintro kr x ⟨k, rfl, hk⟩ ih
  refine ok_if (fun q => absurd ((nI_leI (by omega) (by omega)).mp q) (by omega)) (fun _ => ?_)
  refine ok_in (vp_in_nI (by omega) (by decide)) ?_
  obtain ⟨t1, t2⟩ := ht k (by omega)
  rw [nI_clamp (by omega), t1]
  refine ok_if (fun q => ?_) (fun q => ?_)
  · have := (nI_eq t2 hv).mp q
    have : k = b := inc_inj hti k b (by omega) hb (by omega)
    exact ok_some (by rw [this])
  · refine ok_nmr (nI (k + 1)) (nI_1 ..) ?_
    have hne : k ≠ b := by
      intro e
      subst e
      exact q (by rw [htb])
    exact ih _ ⟨k + 1, rfl, by omega⟩ (by rw [nI_clamp (by omega), nI_clamp (by omega)]; omega)
theorem re_ok {w : Nat → Int32} {n b : Nat} {t : Nat → Nat} (hn : n + 1 ≤ 12) (hb : b < n + 1) (ht : ∀ i, i < n + 1 → w i = nI (t i)) : ok (f_R_remove 12 w (nI (n + 1)) (nI b)) (fun r => ∀ i, i < n → r i = nI (dn t b i)) := by
  unfold f_R_remove
  refine lo2_F (fun x r => ∃ k : Nat, x = nI k ∧ b ≤ k ∧ k ≤ n ∧ (∀ i, i < k → r i = nI (dn t b i)) ∧ ∀ i, k ≤ i → i < n + 1 → r i = w i) (fun x _ => n - x.toNatClampNeg) ?_ ⟨b, rfl, Nat.le_refl _, by omega, fun i hi => ?_, fun _ _ _ => rfl⟩ (by omega)
  · rintro kr x r ⟨k, rfl, hbk, hkn, h1, h2⟩ ih
    rw [nI_1]
    refine ok_if (fun q => ?_) (fun q => ?_)
    · have e : k = n := by
        have := (nI_leI (by omega) (by omega)).mp q
        omega
      subst e
      exact ok_some h1
    · have hlt : k < n := by
        rcases Nat.lt_or_ge k n with q1 | q1
        · exact q1
        · exact absurd ((nI_leI (by omega) (by omega)).mpr (show n + 1 ≤ k + 1 by omega)) q
      refine ok_in (vp_in_nI (by omega) (by decide)) (ok_in (vp_in_nI (by omega) (by decide)) ?_)
      refine ok_nm (fun y hy => ?_)
      subst hy
      rw [nI_clamp (by omega), nI_clamp (by omega)]
      refine ih _ _ ⟨k + 1, rfl, by omega, hlt, fun i hi => ?_, fun i hi hin => ?_⟩ (by rw [nI_clamp (by omega), nI_clamp (by omega)]; omega)
      · by_cases q2 : i = k
        · subst q2
          rw [pk_us, h2 (i + 1) (by omega) (by omega), ht (i + 1) (by omega)]
          unfold dn; rw [if_neg (by omega)]
        · rw [pk_un q2]; exact h1 i (by omega)
      · rw [pk_un (by omega)]; exact h2 i (by omega) hin
  · rw [ht i (by omega)]; unfold dn; rw [if_pos hi]
