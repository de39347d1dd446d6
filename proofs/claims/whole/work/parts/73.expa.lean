/-! the class's minors: one set expanded by a row -/
theorem i64 {x : Int32} : x.toInt64.toInt = x.toInt := Int32.toInt_toInt64 x
def turn (S e : Nat) : Int32 := if sg S e = 1 then 1 else -1
theorem turn_toInt (S e : Nat) : (turn S e).toInt = sg S e := by
  unfold turn
  rcases sg_or S e with h | h <;> rw [h] <;> rfl
theorem turn_up (S e : Nat) : turn S (e + 1) = if S.testBit e = true then - turn S e else turn S e := by
  cases q : S.testBit e with
  | true =>
    have h1 : sg S (e + 1) = - sg S e := by simp only [sg]; rw [if_pos q]
    rw [if_pos rfl]
    unfold turn
    rw [h1]
    rcases sg_or S e with h | h <;> rw [h] <;> decide
  | false =>
    have h1 : sg S (e + 1) = sg S e := by simp only [sg]; rw [if_neg (by rw [q]; decide)]
    rw [if_neg (by decide)]
    unfold turn
    rw [h1]
theorem sh48 {x : Int64} : (x >>> ((48 : Int32).toInt64 &&& 63)).toInt = x.toInt / 281474976710656 := by
  have h1 : ((48 : Int32).toInt64 &&& 63) = 48 := by decide
  rw [h1]
  show (x.toBitVec.sshiftRight ((48 : Int64).toBitVec.smod 64).toNat).toInt = _
  have h2 : ((48 : Int64).toBitVec.smod 64).toNat = 48 := by decide
  rw [h2, BitVec.toInt_sshiftRight, Int.shiftRight_eq_div_pow]
  rfl
theorem and48 {x : Int64} : (x &&& 281474976710655).toInt = x.toInt % 281474976710656 := by
  have h1 : (x &&& 281474976710655).toBitVec.toNat = x.toBitVec.toNat % 2 ^ 48 := by
    rw [Int64.toBitVec_and, BitVec.toNat_and]
    show x.toBitVec.toNat &&& (2 ^ 48 - 1) = _
    rw [Nat.and_two_pow_sub_one_eq_mod]
  have h2 : (x &&& 281474976710655).toInt = ((x &&& 281474976710655).toBitVec.toNat : Int) := by
    rw [← Int64.toInt_toBitVec, BitVec.toInt_eq_toNat_of_lt]
    rw [h1]
    have := Nat.mod_lt x.toBitVec.toNat (show 0 < 2 ^ 48 by decide)
    omega
  rw [h2, h1, ← Int64.toInt_toBitVec, BitVec.toInt_eq_toNat_bmod]
  rw [Int.bmod_def]
  have h3 := x.toBitVec.isLt
  generalize x.toBitVec.toNat = n at *
  split <;> omega
/-- partial sums of the expansion -/
def xs (S : Nat) (a : Nat → Int) (w : Nat → Int) (e : Nat) : Int := sm e (fun f => if S.testBit f = true then sg S f * a f * w (tg S f) else 0)
theorem xs_bd {S : Nat} {a w : Nat → Int} {B : Int} {e : Nat} (hB : 0 ≤ B) (ha : ∀ f, f < e → -999 ≤ a f ∧ a f ≤ 999) (hw : ∀ f, f < e → S.testBit f = true → -B ≤ w (tg S f) ∧ w (tg S f) ≤ B) : -(e * (999 * B)) ≤ xs S a w e ∧ xs S a w e ≤ e * (999 * B) := by
  induction e with
  | zero => simp [xs, sm]
  | succ e ih =>
    obtain ⟨h1, h2⟩ := ih (fun f hf => ha f (by omega)) (fun f hf => hw f (by omega))
    have e1 : xs S a w (e + 1) = xs S a w e + (if S.testBit e = true then sg S e * a e * w (tg S e) else 0) := rfl
    have e2 : ((e + 1 : Nat) : Int) * (999 * B) = e * (999 * B) + 999 * B := by push_cast; grind
    have e3 : -(999 * B) ≤ (if S.testBit e = true then sg S e * a e * w (tg S e) else 0) ∧ (if S.testBit e = true then sg S e * a e * w (tg S e) else 0) ≤ 999 * B := by
      by_cases q : S.testBit e = true
      · rw [if_pos q]
        obtain ⟨w1, w2⟩ := hw e (by omega) q
        obtain ⟨a1, a2⟩ := ha e (by omega)
        have h3 : (sg S e * a e * w (tg S e)).natAbs ≤ 999 * B.natAbs := by
          rw [Int.natAbs_mul, Int.natAbs_mul, sg_abs, Nat.one_mul]
          exact Nat.mul_le_mul (by omega) (by omega)
        omega
      · rw [if_neg q]; omega
    rw [e1, e2]
    omega
/-- one step of one digit's sum -/
theorem l_fma {s x y : Int64} {m : Int32} {B : Int} (hm : -999 ≤ m.toInt ∧ m.toInt ≤ 999) (hB : -B ≤ y.toInt ∧ y.toInt ≤ B) (hx : x = m.toInt64) (h1 : -9223372036854775808 ≤ s.toInt - 999 * B) (h2 : s.toInt + 999 * B < 9223372036854775808) : (s + x * y).toInt = s.toInt + m.toInt * y.toInt := by
  have h3 : (m.toInt * y.toInt).natAbs ≤ 999 * B.natAbs := by
    rw [Int.natAbs_mul]; exact Nat.mul_le_mul (by omega) (by omega)
  have h4 : 0 ≤ B := by omega
  by_cases q : s.toInt ≤ 0
  · have e1 : (x * y).toInt = m.toInt * y.toInt := by
      rw [hx]
      have := l_mul (a := m.toInt64) (b := y) (by rw [i64]; omega) (by rw [i64]; omega)
      rw [this, i64]
    rw [l_add (by rw [e1]; omega) (by rw [e1]; omega), e1]
  · have e1 : (x * y).toInt = m.toInt * y.toInt := by
      rw [hx]
      have := l_mul (a := m.toInt64) (b := y) (by rw [i64]; omega) (by rw [i64]; omega)
      rw [this, i64]
    rw [l_add (by rw [e1]; omega) (by rw [e1]; omega), e1]
theorem ex_loop {R : Type} {Q : R → Prop} {lo mi hi : Nat → Int64} {nb : Nat → Int32} {kk : Int64 → Int64 → Int64 → Option R} {N row S : Nat} {B1 B2 : Int} (hN : N ≤ 12) (hrow : row < 12) (hS : S < 2 ^ N) (hnb : ∀ f, f < N → -999 ≤ (nb (row * 12 + f)).toInt ∧ (nb (row * 12 + f)).toInt ≤ 999) (hB1 : 0 ≤ B1 ∧ B1 ≤ 281474976710656) (hB2 : 0 ≤ B2 ∧ B2 ≤ 281474976710656)
    (hlo : ∀ f, f < N → S.testBit f = true → -B1 ≤ (lo (tg S f)).toInt ∧ (lo (tg S f)).toInt ≤ B1) (hmi : ∀ f, f < N → S.testBit f = true → -B1 ≤ (mi (tg S f)).toInt ∧ (mi (tg S f)).toInt ≤ B1) (hhi : ∀ f, f < N → S.testBit f = true → -B2 ≤ (hi (tg S f)).toInt ∧ (hi (tg S f)).toInt ≤ B2)
    (hkk : ∀ c b a : Int64, a.toInt = xs S (fun f => (nb (row * 12 + f)).toInt) (fun T => (lo T).toInt) N → b.toInt = xs S (fun f => (nb (row * 12 + f)).toInt) (fun T => (mi T).toInt) N → c.toInt = xs S (fun f => (nb (row * 12 + f)).toInt) (fun T => (hi T).toInt) N → ok (kk c b a) Q) :
    ok (lo5 (fun k_15 (v11_15 : Int32) (v10_16 : Int32) (v8_17 : Int64) (v6_18 : Int64) (v4_19 : Int64) => ck_if (nI N ≤ v11_15) (kk v8_17 v6_18 v4_19) (ck_nm (nI S &&& (((1 : Int32) <<< (v11_15 &&& 31)) ^^^ (-1))) <| fun x_21 => ck_jn (fun (v4_22 : Int64) (v6_23 : Int64) (v8_24 : Int64) (v10_25 : Int32) => ck_nm (v11_15 + 1) <| fun x_26 => k_15 x_26 v10_25 v8_24 v6_23 v4_22) <| fun k_105 => ck_if (x_21 = nI S) (k_105 v4_19 v6_18 v8_17 v10_16) (ck_in (nI row * 12 + v11_15) 144 <| ck_nm ((v10_16 * (nb (nI row * 12 + v11_15).toNatClampNeg)).toInt64) <| fun x_29 => ck_in x_21 4096 <| ck_nm (v4_19 + (x_29 * (lo x_21.toNatClampNeg))) <| fun x_31 => ck_in x_21 4096 <| ck_nm (v6_18 + (x_29 * (mi x_21.toNatClampNeg))) <| fun x_33 => ck_in x_21 4096 <| ck_nm (v8_17 + (x_29 * (hi x_21.toNatClampNeg))) <| fun x_35 => ck_nm (-v10_16) <| fun x_36 => k_105 x_31 x_33 x_35 x_36))) ck_F 0 1 0 0 0) Q := by
  have hM := p2_12 hN
  refine lo5_F (fun v t c b a => ∃ e : Nat, e ≤ N ∧ v = nI e ∧ t = turn S e ∧ a.toInt = xs S (fun f => (nb (row * 12 + f)).toInt) (fun T => (lo T).toInt) e ∧ b.toInt = xs S (fun f => (nb (row * 12 + f)).toInt) (fun T => (mi T).toInt) e ∧ c.toInt = xs S (fun f => (nb (row * 12 + f)).toInt) (fun T => (hi T).toInt) e) (fun v _ _ _ _ => N - v.toNatClampNeg) ?_ ⟨0, Nat.zero_le _, nI_0.symm, rfl, rfl, rfl, rfl⟩ (by omega)
  rintro kr v t c b a ⟨e, he, rfl, rfl, ha, hb, hc⟩ ih
  refine ok_if (fun q => ?_) (fun q => ?_)
  · have e1 : e = N := by
      have := (nI_leI (by omega) (by omega)).mp q
      omega
    subst e1
    exact hkk c b a ha hb hc
  · have hlt : e < N := by
      rcases Nat.lt_or_ge e N with q1 | q1
      · exact q1
      · exact absurd ((nI_leI (by omega) (by omega)).mpr q1) q
    refine ok_nmr (nI (if S.testBit e = true then tg S e else S)) (nI_clr (by omega) (by omega)) ?_
    refine ok_jn (fun k105 => ∀ a b c : Int64, a.toInt = xs S (fun f => (nb (row * 12 + f)).toInt) (fun T => (lo T).toInt) (e + 1) → b.toInt = xs S (fun f => (nb (row * 12 + f)).toInt) (fun T => (mi T).toInt) (e + 1) → c.toInt = xs S (fun f => (nb (row * 12 + f)).toInt) (fun T => (hi T).toInt) (e + 1) → ok (k105 a b c (turn S (e + 1))) Q) ?_ ?_
    · intro a b c ha hb hc
      refine ok_nmr (nI (e + 1)) (nI_1 ..) ?_
      exact ih _ _ _ _ _ ⟨e + 1, hlt, rfl, rfl, ha, hb, hc⟩ (by rw [nI_clamp (by omega), nI_clamp (by omega)]; omega)
    · intro k105 h105
      have stp : ∀ w : Nat → Int64, xs S (fun f => (nb (row * 12 + f)).toInt) (fun T => (w T).toInt) (e + 1) = xs S (fun f => (nb (row * 12 + f)).toInt) (fun T => (w T).toInt) e + (if S.testBit e = true then sg S e * (nb (row * 12 + e)).toInt * (w (tg S e)).toInt else 0) := fun w => rfl
      by_cases hb1 : S.testBit e = true
      · rw [if_pos hb1]
        have htl : tg S e < 2 ^ N := tg_lt hS hlt
        refine ok_if (fun q2 => absurd ((nI_eq (by omega) (by omega)).mp q2) tg_nself) (fun _ => ?_)
        have ix : nI row * 12 + nI e = nI (row * 12 + e) := by rw [show (12 : Int32) = nI 12 from rfl, pk_mul, nI_add]
        rw [ix]
        refine ok_in (vp_in_nI (by omega) (by decide)) ?_
        rw [nI_clamp (by omega)]
        refine ok_nm (fun x29 hx29 => ?_)
        obtain ⟨n1, n2⟩ := hnb e hlt
        have hm : (turn S e * nb (row * 12 + e)).toInt = sg S e * (nb (row * 12 + e)).toInt := by
          have ht := turn_toInt S e
          rw [i_mul, ht]
          · rw [ht]; rcases sg_or S e with h | h <;> rw [h] <;> omega
          · rw [ht]; rcases sg_or S e with h | h <;> rw [h] <;> omega
        have hmb : -999 ≤ (turn S e * nb (row * 12 + e)).toInt ∧ (turn S e * nb (row * 12 + e)).toInt ≤ 999 := by
          rw [hm]; rcases sg_or S e with h | h <;> rw [h] <;> omega
        have xb1 := xs_bd (S := S) (a := fun f => (nb (row * 12 + f)).toInt) (w := fun T => (lo T).toInt) (e := e) hB1.1 (fun f hf => hnb f (by omega)) (fun f hf => hlo f (by omega))
        have xb2 := xs_bd (S := S) (a := fun f => (nb (row * 12 + f)).toInt) (w := fun T => (mi T).toInt) (e := e) hB1.1 (fun f hf => hnb f (by omega)) (fun f hf => hmi f (by omega))
        have xb3 := xs_bd (S := S) (a := fun f => (nb (row * 12 + f)).toInt) (w := fun T => (hi T).toInt) (e := e) hB2.1 (fun f hf => hnb f (by omega)) (fun f hf => hhi f (by omega))
        have he12 : (e : Int) ≤ 11 := by omega
        have he0 : (0 : Int) ≤ e := by omega
        have m1 : (e : Int) * (999 * B1) ≤ 11 * (999 * B1) := Int.mul_le_mul_of_nonneg_right he12 (by omega)
        have m2 : (e : Int) * (999 * B2) ≤ 11 * (999 * B2) := Int.mul_le_mul_of_nonneg_right he12 (by omega)
        refine ok_in (vp_in_nI (by omega) (by decide)) ?_
        rw [nI_clamp (by omega)]
        refine ok_nm (fun x31 hx31 => ?_)
        refine ok_in (vp_in_nI (by omega) (by decide)) ?_
        refine ok_nm (fun x33 hx33 => ?_)
        refine ok_in (vp_in_nI (by omega) (by decide)) ?_
        refine ok_nm (fun x35 hx35 => ?_)
        refine ok_nmr (turn S (e + 1)) (by rw [turn_up, if_pos hb1]) ?_
        refine h105 _ _ _ ?_ ?_ ?_
        · rw [hx31, l_fma hmb (hlo e hlt hb1) hx29 (by rw [ha]; omega) (by rw [ha]; omega), ha, stp lo, if_pos hb1, hm]
        · rw [hx33, l_fma hmb (hmi e hlt hb1) hx29 (by rw [hb]; omega) (by rw [hb]; omega), hb, stp mi, if_pos hb1, hm]
        · rw [hx35, l_fma hmb (hhi e hlt hb1) hx29 (by rw [hc]; omega) (by rw [hc]; omega), hc, stp hi, if_pos hb1, hm]
      · rw [if_neg hb1]
        refine ok_if (fun _ => ?_) (fun q2 => absurd rfl q2)
        have ht : turn S (e + 1) = turn S e := by rw [turn_up, if_neg hb1]
        rw [ht] at h105
        exact h105 a b c (by rw [ha, stp lo, if_neg hb1, Int.add_zero]) (by rw [hb, stp mi, if_neg hb1, Int.add_zero]) (by rw [hc, stp hi, if_neg hb1, Int.add_zero])
