theorem cnt_del {n x : Nat} {f g : Nat → Bool} (hx : x < n) (hf : f x = true) (hg : g x = false) (h : ∀ e, e ≠ x → g e = f e) : cnt n g + 1 = cnt n f := by
  induction n with
  | zero => omega
  | succ n ih =>
    simp only [cnt]
    by_cases q : x = n
    · subst q
      rw [cnt_congr (fun e he => h e (by omega)), if_pos hf, if_neg (by rw [hg]; decide)]
    · have := ih (by omega)
      rw [h n (fun e => q e.symm)]
      omega
/-- the pivots' columns -/
def inP (R : Nat) (pv : Nat → Nat) (e : Nat) : Bool := (List.range R).any (fun i => pv i == e)
theorem inP_iff {R : Nat} {pv : Nat → Nat} {e : Nat} : inP R pv e = true ↔ ∃ i, i < R ∧ pv i = e := by
  unfold inP
  rw [List.any_eq_true]
  constructor
  · rintro ⟨i, h1, h2⟩; exact ⟨i, List.mem_range.mp h1, by simpa using h2⟩
  · rintro ⟨i, h1, h2⟩; exact ⟨i, List.mem_range.mpr h1, by simpa using h2⟩
theorem inP_cnt {n R : Nat} {pv : Nat → Nat} (hpn : ∀ i, i < R → pv i < n) (hinj : ∀ i j, i < R → j < R → pv i = pv j → i = j) : cnt n (inP R pv) = R := by
  induction R with
  | zero =>
    have : ∀ n, cnt n (inP 0 pv) = 0 := by
      intro n
      induction n with
      | zero => rfl
      | succ n ih => simp only [cnt]; rw [ih]; simp [inP]
    exact this n
  | succ R ih =>
    have h1 := ih (fun i hi => hpn i (by omega)) (fun i j hi hj => hinj i j (by omega) (by omega))
    have h2 : inP R pv (pv R) = false := by
      cases q : inP R pv (pv R) with
      | false => rfl
      | true =>
        obtain ⟨i, q1, q2⟩ := inP_iff.mp q
        have := hinj i R (by omega) (by omega) q2
        omega
    have h3 := cnt_del (f := inP (R + 1) pv) (g := inP R pv) (hpn R (by omega)) (inP_iff.mpr ⟨R, by omega, rfl⟩) h2 (fun e he => by
      cases q : inP (R + 1) pv e with
      | true =>
        obtain ⟨i, q1, q2⟩ := inP_iff.mp q
        have : i ≠ R := fun q3 => he (by rw [← q2, q3])
        exact inP_iff.mpr ⟨i, by omega, q2⟩
      | false =>
        cases q2 : inP R pv e with
        | false => rfl
        | true =>
          obtain ⟨i, q3, q4⟩ := inP_iff.mp q2
          have : inP (R + 1) pv e = true := inP_iff.mpr ⟨i, by omega, q4⟩
          rw [q] at this; cases this)
    omega
def msk : Nat → (Nat → Bool) → Nat
  | 0, _ => 0
  | n + 1, f => msk n f ||| (if f n = true then 2 ^ n else 0)
theorem msk_bit {n : Nat} {f : Nat → Bool} {e : Nat} : (msk n f).testBit e = (decide (e < n) && f e) := by
  induction n with
  | zero => simp [msk]
  | succ n ih =>
    simp only [msk]
    rw [Nat.testBit_or, ih]
    by_cases q : f n = true
    · rw [if_pos q, Nat.testBit_two_pow]
      by_cases q2 : n = e
      · subst q2; simp [q]
      · by_cases q3 : e < n
        · simp [q2, q3, show e < n + 1 by omega]
        · simp [q2, q3, show ¬ e < n + 1 by omega]
    · rw [if_neg q, Nat.zero_testBit]
      by_cases q2 : n = e
      · subst q2; simp [q]
      · by_cases q3 : e < n
        · simp [q3, show e < n + 1 by omega]
        · simp [q3, show ¬ e < n + 1 by omega]
theorem msk_lt {n : Nat} {f : Nat → Bool} : msk n f < 2 ^ n := by
  apply Nat.lt_pow_two_of_testBit
  intro i hi
  rw [msk_bit]
  simp [show ¬ i < n by omega]
theorem bit_ext {n S T : Nat} (hS : S < 2 ^ n) (hT : T < 2 ^ n) (h : ∀ e, e < n → S.testBit e = T.testBit e) : S = T := by
  apply Nat.eq_of_testBit_eq
  intro i
  by_cases q : i < n
  · exact h i q
  · rw [Nat.testBit_lt_two_pow (Nat.lt_of_lt_of_le hS (Nat.pow_le_pow_right (by omega) (by omega))), Nat.testBit_lt_two_pow (Nat.lt_of_lt_of_le hT (Nat.pow_le_pow_right (by omega) (by omega)))]
/-- how many columns of S are no pivots -/
def oc (n R : Nat) (pv : Nat → Nat) (S : Nat) : Nat := cnt n (fun e => S.testBit e && !inP R pv e)
theorem oc_P {n R x S : Nat} {pv : Nat → Nat} (hx : inP R pv x = true) : oc n R pv (tg S x) = oc n R pv S := by
  refine cnt_congr (fun e _ => ?_)
  by_cases q : e = x
  · subst q; simp [hx]
  · rw [tg_ne (fun h => q h.symm)]
theorem oc_N {n R x S : Nat} {pv : Nat → Nat} (hn : x < n) (hx : inP R pv x = false) (hS : S.testBit x = true) : oc n R pv (tg S x) + 1 = oc n R pv S := by
  refine cnt_del hn (by simp [hS, hx]) (by simp [tg_self, hS]) (fun e he => ?_)
  rw [tg_ne (fun h => he h.symm)]
section Prop41
variable {m n R : Nat} {pv : Nat → Nat} {a : Nat → Nat → Int}
/-- of a form that the reduced rows kill: its value at S out of those at sets with fewer columns beside the pivots -/
theorem kill_at {w : Nat → Int} (hpn : ∀ i, i < R → pv i < n) (h0 : ∀ i j, i < R → j < R → i ≠ j → (m : Int) ∣ a i (pv j)) (hw : Kill m n R a w) {i S : Nat} (hi : i < R) (hS : S.testBit (pv i) = false) : (m : Int) ∣ sg S (pv i) * a i (pv i) * w S + sm n (fun e => if (S.testBit e && !inP R pv e) = true then sg (tg S (pv i)) e * a i e * w (tg (tg S (pv i)) e) else 0) := by
  have h1 := hw i hi (tg S (pv i))
  rw [wd_at (hpn i hi) _ _ hS] at h1
  have h2 : (m : Int) ∣ sm n (fun e => if S.testBit e = true then sg (tg S (pv i)) e * a i e * w (tg (tg S (pv i)) e) else 0) - sm n (fun e => if (S.testBit e && !inP R pv e) = true then sg (tg S (pv i)) e * a i e * w (tg (tg S (pv i)) e) else 0) := by
    have e1 := sm_lin n 1 1 0 (fun e => if S.testBit e = true then sg (tg S (pv i)) e * a i e * w (tg (tg S (pv i)) e) else 0) (fun e => if (S.testBit e && !inP R pv e) = true then sg (tg S (pv i)) e * a i e * w (tg (tg S (pv i)) e) else 0) (fun _ => 0)
    have e2 : ∀ x y z : Int, 1 * x - (1 * y - 0 * z) = x - y := by intro x y z; omega
    rw [e2] at e1
    rw [e1]
    refine sm_dvd (fun e _ => ?_)
    rw [e2]
    by_cases q : S.testBit e = true
    · cases q2 : inP R pv e with
      | false => simp [q]
      | true =>
        obtain ⟨j, hj, rfl⟩ := inP_iff.mp q2
        have hij : i ≠ j := by intro e; subst e; rw [hS] at q; cases q
        simp only [q, Bool.not_true, Bool.and_false]
        obtain ⟨c, hc⟩ := h0 i j hi hj hij
        refine ⟨sg (tg S (pv i)) (pv j) * c * w (tg (tg S (pv i)) (pv j)), ?_⟩
        rw [hc]; simp; grind
    · simp [q]
  have h3 := Int.dvd_sub h1 h2
  have e : ∀ x y z : Int, x + y - (y - z) = x + z := by intro x y z; omega
  rw [e] at h3
  exact h3
theorem sg_canc {S e : Nat} {x : Int} (h : (m : Int) ∣ sg S e * x) : (m : Int) ∣ x := by
  rcases sg_or S e with q | q
  · rw [q] at h; simpa using h
  · rw [q] at h; simpa using h
theorem exP (hpn : ∀ i, i < R → pv i < n) (hinj : ∀ i j, i < R → j < R → pv i = pv j → i = j) {S : Nat} (h : cnt n (fun e => S.testBit e && inP R pv e) < R) : ∃ i, i < R ∧ S.testBit (pv i) = false := by
  obtain ⟨e, h1, h2, h3⟩ := cnt_ex (n := n) (f := fun e => S.testBit e && inP R pv e) (g := inP R pv) (by rw [inP_cnt hpn hinj]; exact h)
  obtain ⟨i, hi, rfl⟩ := inP_iff.mp h2
  refine ⟨i, hi, ?_⟩
  simpa [h2] using h3
/-- a form of less than R columns that the rows kill is zero -/
theorem kill_low (hm : FdP m) (hpn : ∀ i, i < R → pv i < n) (hinj : ∀ i j, i < R → j < R → pv i = pv j → i = j) (h0 : ∀ i j, i < R → j < R → i ≠ j → (m : Int) ∣ a i (pv j)) (h1 : ∀ i, i < R → ¬ (m : Int) ∣ a i (pv i)) {w : Nat → Int} (hw : Kill m n R a w) : ∀ (k S : Nat), cnt n S.testBit < R → oc n R pv S ≤ k → (m : Int) ∣ w S := by
  intro k
  induction k with
  | zero =>
    intro S hS hk
    have hsp := cnt_split n S.testBit (inP R pv)
    obtain ⟨i, hi, hb⟩ := exP hpn hinj (S := S) (by omega)
    have h2 := kill_at hpn h0 hw hi hb
    have h3 : sm n (fun e => if (S.testBit e && !inP R pv e) = true then sg (tg S (pv i)) e * a i e * w (tg (tg S (pv i)) e) else 0) = 0 := by
      refine sm_z (fun e he => if_neg (fun q => ?_))
      have h4 := cnt_eq (n := n) (f := fun _ => false) (g := fun e => S.testBit e && !inP R pv e) (fun _ _ h => by cases h) (by unfold oc at hk; omega) e he q
      cases h4
    rw [h3, Int.add_zero, Int.mul_assoc] at h2
    exact fd_canc hm (h1 i hi) (sg_canc h2)
  | succ k ih =>
    intro S hS hk
    have hsp := cnt_split n S.testBit (inP R pv)
    obtain ⟨i, hi, hb⟩ := exP hpn hinj (S := S) (by omega)
    have h2 := kill_at hpn h0 hw hi hb
    have h3 : (m : Int) ∣ sm n (fun e => if (S.testBit e && !inP R pv e) = true then sg (tg S (pv i)) e * a i e * w (tg (tg S (pv i)) e) else 0) := by
      refine sm_dvd (fun e he => ?_)
      by_cases q : (S.testBit e && !inP R pv e) = true
      · rw [if_pos q]
        simp only [Bool.and_eq_true, Bool.not_eq_true'] at q
        have hne : pv i ≠ e := by intro e1; rw [e1] at hb; rw [hb] at q; cases q.1
        have hb2 : (tg S (pv i)).testBit e = true := by rw [tg_ne hne]; exact q.1
        refine Int.dvd_mul_of_dvd_right (ih _ ?_ ?_)
        · have c1 := cnt_tg (hpn i hi) S
          have c2 := cnt_tg he (tg S (pv i))
          rw [hb] at c1
          rw [hb2] at c2
          simp at c1 c2
          omega
        · have c1 := oc_N (n := n) (R := R) (pv := pv) he q.2 hb2
          rw [oc_P (inP_iff.mpr ⟨i, hi, rfl⟩)] at c1
          omega
      · rw [if_neg q]; exact Int.dvd_zero _
    have h4 := Int.dvd_sub h2 h3
    rw [Int.add_sub_cancel, Int.mul_assoc] at h4
    exact fd_canc hm (h1 i hi) (sg_canc h4)
end Prop41
