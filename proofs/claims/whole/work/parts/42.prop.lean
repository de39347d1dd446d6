section Prop42
variable {m n R : Nat} {pv : Nat → Nat} {a : Nat → Nat → Int}
/-- two forms that the reduced rows kill are one, but for a factor, on the sets of R columns -/
theorem kill_prop (hm : FdP m) (hpn : ∀ i, i < R → pv i < n) (hinj : ∀ i j, i < R → j < R → pv i = pv j → i = j) (h0 : ∀ i j, i < R → j < R → i ≠ j → (m : Int) ∣ a i (pv j)) (h1 : ∀ i, i < R → ¬ (m : Int) ∣ a i (pv i)) {w v : Nat → Int} (hw : Kill m n R a w) (hv : Kill m n R a v) : ∀ (k S : Nat), S < 2 ^ n → cnt n S.testBit = R → oc n R pv S ≤ k → (m : Int) ∣ w (msk n (inP R pv)) * v S - v (msk n (inP R pv)) * w S := by
  have base : ∀ S, S < 2 ^ n → cnt n S.testBit = R → oc n R pv S = 0 → S = msk n (inP R pv) := by
    intro S hS hc ho
    have hsp := cnt_split n S.testBit (inP R pv)
    have hP := inP_cnt hpn hinj
    refine bit_ext hS msk_lt (fun e he => ?_)
    rw [msk_bit]
    have q1 : S.testBit e = true → inP R pv e = true := by
      intro q
      cases q2 : inP R pv e with
      | true => rfl
      | false =>
        have := cnt_eq (n := n) (f := fun _ => false) (g := fun e => S.testBit e && !inP R pv e) (fun _ _ h => by cases h) (by unfold oc at ho; omega) e he (by simp [q, q2])
        cases this
    have q2 : inP R pv e = true → S.testBit e = true := by
      intro q
      have := cnt_eq (n := n) (f := fun e => S.testBit e && inP R pv e) (g := inP R pv) (fun e _ h => by simp at h; exact h.2) (by unfold oc at ho; omega) e he q
      simp at this; exact this.1
    cases q3 : S.testBit e <;> cases q4 : inP R pv e
    · simp
    · rw [q3] at q2; cases q2 q4
    · rw [q4] at q1; cases q1 q3
    · simp [he]
  intro k
  induction k with
  | zero =>
    intro S hS hc hk
    rw [base S hS hc (by omega), Int.mul_comm, Int.sub_self]
    exact Int.dvd_zero _
  | succ k ih =>
    intro S hS hc hk
    by_cases hz : oc n R pv S = 0
    · rw [base S hS hc hz, Int.mul_comm, Int.sub_self]
      exact Int.dvd_zero _
    · have hsp := cnt_split n S.testBit (inP R pv)
      obtain ⟨i, hi, hb⟩ := exP hpn hinj (S := S) (by unfold oc at hz; omega)
      generalize hp : msk n (inP R pv) = p at ih ⊢
      have e1 := kill_at hpn h0 hw hi hb
      have e2 := kill_at hpn h0 hv hi hb
      have e3 := sm_lin n 0 (w p) (v p) (fun _ => 0) (fun e => if (S.testBit e && !inP R pv e) = true then sg (tg S (pv i)) e * a i e * v (tg (tg S (pv i)) e) else 0) (fun e => if (S.testBit e && !inP R pv e) = true then sg (tg S (pv i)) e * a i e * w (tg (tg S (pv i)) e) else 0)
      have e4 : (m : Int) ∣ sm n (fun e => 0 * (fun _ => (0 : Int)) e - (w p * (if (S.testBit e && !inP R pv e) = true then sg (tg S (pv i)) e * a i e * v (tg (tg S (pv i)) e) else 0) - v p * (if (S.testBit e && !inP R pv e) = true then sg (tg S (pv i)) e * a i e * w (tg (tg S (pv i)) e) else 0))) := by
        refine sm_dvd (fun e he => ?_)
        by_cases q : (S.testBit e && !inP R pv e) = true
        · rw [if_pos q, if_pos q]
          simp only [Bool.and_eq_true, Bool.not_eq_true'] at q
          have hne : pv i ≠ e := by intro e1; rw [e1] at hb; rw [hb] at q; cases q.1
          have hb2 : (tg S (pv i)).testBit e = true := by rw [tg_ne hne]; exact q.1
          have hlt : tg (tg S (pv i)) e < 2 ^ n := tg_lt (tg_lt hS (hpn i hi)) he
          have hcn : cnt n (tg (tg S (pv i)) e).testBit = R := by
            have c1 := cnt_tg (hpn i hi) S
            have c2 := cnt_tg he (tg S (pv i))
            rw [hb] at c1
            rw [hb2] at c2
            simp at c1 c2
            omega
          have hoc : oc n R pv (tg (tg S (pv i)) e) ≤ k := by
            have c1 := oc_N (n := n) (R := R) (pv := pv) he q.2 hb2
            rw [oc_P (inP_iff.mpr ⟨i, hi, rfl⟩)] at c1
            omega
          obtain ⟨c, hc2⟩ := ih _ hlt hcn hoc
          refine ⟨- (sg (tg S (pv i)) e * a i e * c), ?_⟩
          generalize v (tg (tg S (pv i)) e) = V at hc2 ⊢
          generalize w (tg (tg S (pv i)) e) = W at hc2 ⊢
          generalize sg (tg S (pv i)) e * a i e = q9
          have : 0 * (0 : Int) - (w p * (q9 * V) - v p * (q9 * W)) = - (q9 * (w p * V - v p * W)) := by grind
          rw [this, hc2]; grind
        · rw [if_neg q, if_neg q]; simp
      rw [← e3] at e4
      generalize sm n (fun e => if (S.testBit e && !inP R pv e) = true then sg (tg S (pv i)) e * a i e * w (tg (tg S (pv i)) e) else 0) = SW at e1 e4
      generalize sm n (fun e => if (S.testBit e && !inP R pv e) = true then sg (tg S (pv i)) e * a i e * v (tg (tg S (pv i)) e) else 0) = SV at e2 e4
      have e5 : (m : Int) ∣ sg S (pv i) * (a i (pv i) * (w p * v S - v p * w S)) := by
        obtain ⟨c1, hc1⟩ := e1
        obtain ⟨c2, hc2⟩ := e2
        obtain ⟨c3, hc3⟩ := e4
        refine ⟨w p * c2 - v p * c1 + c3, ?_⟩
        generalize sm n (fun _ => (0 : Int)) = Z at hc3
        grind
      exact fd_canc hm (h1 i hi) (sg_canc e5)
end Prop42
