def K48 : Int := 281474976710656
def mval (lo mi hi : Nat → Int64) (T : Nat) : Int := (lo T).toInt + (mi T).toInt * 281474976710656 + (hi T).toInt * 79228162514264337593543950336
def Dg (lo mi : Nat → Int64) (T : Nat) : Prop := 0 ≤ (lo T).toInt ∧ (lo T).toInt < 281474976710656 ∧ 0 ≤ (mi T).toInt ∧ (mi T).toInt < 281474976710656
theorem xs_lin {S e : Nat} {a u v w : Nat → Int} {x y : Int} : xs S a (fun T => u T + v T * x + w T * y) e = xs S a u e + xs S a v e * x + xs S a w e * y := by
  induction e with
  | zero => simp [xs, sm]
  | succ e ih =>
    have e1 : ∀ w : Nat → Int, xs S a w (e + 1) = xs S a w e + (if S.testBit e = true then sg S e * a e * w (tg S e) else 0) := fun w => rfl
    rw [e1, e1, e1, e1, ih]
    by_cases q : S.testBit e = true
    · rw [if_pos q, if_pos q, if_pos q, if_pos q]; grind
    · rw [if_neg q, if_neg q, if_neg q, if_neg q]; grind
theorem xs_wd {S N : Nat} {a w v : Nat → Int} (h : ∀ f, f < N → S.testBit f = true → w (tg S f) = v (tg S f)) : xs S a w N = wd N a v S := by
  unfold xs wd
  refine sm_congr (fun e he => ?_)
  by_cases q : S.testBit e = true
  · rw [if_pos q, if_pos q, h e he q]
  · rw [if_neg q, if_neg q]
theorem uL_s {f : Nat → Int64} {k : Nat} {x : Int64} : vp_updL f k x k = x := if_pos rfl
theorem uL_n {f : Nat → Int64} {k j : Nat} {x : Int64} (h : j ≠ k) : vp_updL f k x j = f j := if_neg h
theorem ex0_ok {lo mi hi : Nat → Int64} {nb : Nat → Int32} {w : Nat → Int} {N row S : Nat} (hN : N ≤ 12) (hrow : row < 12) (hS : S < 2 ^ N) (hnb : ∀ f, f < N → -999 ≤ (nb (row * 12 + f)).toInt ∧ (nb (row * 12 + f)).toInt ≤ 999) (hw : ∀ f, f < N → S.testBit f = true → Dg lo mi (tg S f) ∧ mval lo mi hi (tg S f) = w (tg S f) ∧ (w (tg S f)).natAbs ≤ fbd 999 11) :
    ok (f_M_expand 4096 lo 4096 mi 4096 hi 0 (nI N) 144 nb (nI row * 12) (nI S)) (fun r => ∃ a b c : Int64, r = (vp_updL lo S a, vp_updL mi S b, vp_updL hi S c) ∧ Dg r.1 r.2.1 S ∧ mval r.1 r.2.1 r.2.2 S = wd N (fun f => (nb (row * 12 + f)).toInt) w S) := by
  have hM := p2_12 hN
  have hfb : fbd 999 11 ≤ 79228162514264337593543950336 * 1099511627776 := by decide
  have hhi : ∀ f, f < N → S.testBit f = true → -281474976710656 ≤ (hi (tg S f)).toInt ∧ (hi (tg S f)).toInt ≤ 281474976710656 := by
    intro f hf hb
    obtain ⟨⟨d1, d2, d3, d4⟩, d5, d6⟩ := hw f hf hb
    unfold mval at d5
    omega
  unfold f_M_expand
  refine ok_jn (fun k111 => ∀ c b a : Int64, a.toInt = xs S (fun f => (nb (row * 12 + f)).toInt) (fun T => (lo T).toInt) N → b.toInt = xs S (fun f => (nb (row * 12 + f)).toInt) (fun T => (mi T).toInt) N → c.toInt = xs S (fun f => (nb (row * 12 + f)).toInt) (fun T => (hi T).toInt) N → ok (k111 c b a) (fun r => ∃ a b c : Int64, r = (vp_updL lo S a, vp_updL mi S b, vp_updL hi S c) ∧ Dg r.1 r.2.1 S ∧ mval r.1 r.2.1 r.2.2 S = wd N (fun f => (nb (row * 12 + f)).toInt) w S)) ?_ (fun k111 h111 => ex_loop (B1 := 281474976710656) (B2 := 281474976710656) hN hrow hS hnb (by decide) (by decide) (fun f hf hb => by have := (hw f hf hb).1; unfold Dg at this; omega) (fun f hf hb => by have := (hw f hf hb).1; unfold Dg at this; omega) hhi h111)
  intro c b a ha hb hc
  have xb1 := xs_bd (S := S) (a := fun f => (nb (row * 12 + f)).toInt) (w := fun T => (lo T).toInt) (B := 281474976710656) (e := N) (by decide) hnb (fun f hf hb => by have := (hw f hf hb).1; unfold Dg at this; omega)
  have xb2 := xs_bd (S := S) (a := fun f => (nb (row * 12 + f)).toInt) (w := fun T => (mi T).toInt) (B := 281474976710656) (e := N) (by decide) hnb (fun f hf hb => by have := (hw f hf hb).1; unfold Dg at this; omega)
  have xb3 := xs_bd (S := S) (a := fun f => (nb (row * 12 + f)).toInt) (w := fun T => (hi T).toInt) (B := 281474976710656) (e := N) (by decide) hnb hhi
  rw [← ha] at xb1
  rw [← hb] at xb2
  rw [← hc] at xb3
  refine ok_if (fun _ => ?_) (fun q => absurd rfl q)
  refine ok_nm (fun x5 h5 => ok_nm (fun x6 h6 => ?_))
  have e5 : x5.toInt = b.toInt + a.toInt / 281474976710656 := by
    rw [h5, l_add (by rw [sh48]; omega) (by rw [sh48]; omega), sh48]
  have e6 : x6.toInt = c.toInt + x5.toInt / 281474976710656 := by
    rw [h6, l_add (by rw [sh48, e5]; omega) (by rw [sh48, e5]; omega), sh48]
  refine ok_in (vp_in_nI (by omega) (by decide)) (ok_in (vp_in_nI (by omega) (by decide)) (ok_in (vp_in_nI (by omega) (by decide)) ?_))
  rw [nI_clamp (by omega)]
  refine ok_some ⟨_, _, _, rfl, ?_, ?_⟩
  · unfold Dg
    dsimp only
    rw [uL_s, uL_s, and48, and48]
    omega
  · unfold mval
    dsimp only
    rw [uL_s, uL_s, uL_s, and48, and48, e6]
    have e7 : wd N (fun f => (nb (row * 12 + f)).toInt) w S = a.toInt + b.toInt * 281474976710656 + c.toInt * 79228162514264337593543950336 := by
      rw [ha, hb, hc, ← xs_lin]
      exact (xs_wd (fun f hf hb => by have := (hw f hf hb).2.1; unfold mval at this; exact this)).symm
    rw [e7, e5]
    omega
theorem xor_sg {x y : Int64} (hy : 0 ≤ y.toInt) : 0 ≤ (x ^^^ y).toInt ↔ 0 ≤ x.toInt := by
  have key : ∀ z : Int64, (0 ≤ z.toInt) ↔ z.toBitVec.msb = false := by
    intro z
    rw [BitVec.msb_eq_toInt, ← Int64.toInt_toBitVec]
    simp
  rw [key, key, Int64.toBitVec_xor, BitVec.msb_xor, (key y).mp hy]
  simp
theorem xor_sgI {x y : Int32} (hy : 0 ≤ y.toInt) : 0 ≤ (x ^^^ y).toInt ↔ 0 ≤ x.toInt := by
  have key : ∀ z : Int32, (0 ≤ z.toInt) ↔ z.toBitVec.msb = false := by
    intro z
    rw [BitVec.msb_eq_toInt, ← Int32.toInt_toBitVec]
    simp
  rw [key, key, Int32.toBitVec_xor, BitVec.msb_xor, (key y).mp hy]
  simp
theorem tm_em {v p : Int} (hp : 0 < p) : (0 ≤ v → v.tmod p = v % p) ∧ (v < 0 → v.tmod p ≠ 0 → v.tmod p + p = v % p) ∧ (v.tmod p = 0 → v % p = 0) := by
  have h1 := Int.tmod_eq_emod (a := v) (b := p)
  refine ⟨fun h => ?_, fun h h2 => ?_, fun h => ?_⟩
  · rw [h1, if_pos (Or.inl h)]; simp
  · by_cases q : p ∣ v
    · exact absurd (Int.tmod_eq_zero_of_dvd q) h2
    · rw [h1, if_neg (fun hc => by rcases hc with hc | hc; omega; exact q hc)]
      omega
  · exact Int.emod_eq_zero_of_dvd (Int.dvd_of_tmod_eq_zero h)
theorem fml_ok {x : Int64} {p : Nat} (hp : 2 ≤ p) (hp2 : p ≤ 251) (hx1 : -1099511627776 ≤ x.toInt) (hx2 : x.toInt ≤ 1099511627776) : ok (f_floorModL x (nI p).toInt64) (fun r => r.toInt = x.toInt % p) := by
  have hy : ((nI p).toInt64).toInt = (p : Int) := by rw [i64, nI_toInt (by omega)]
  unfold f_floorModL
  generalize (nI p).toInt64 = y at *
  refine ok_nzL (fun q => ?_) ?_
  · rw [q] at hy
    have : (0 : Int64).toInt = 0 := rfl
    omega
  · have hq : (x / y).toInt = x.toInt.tdiv p := by
      rw [Int64.toInt_div_of_ne_right _ _ (fun q => by rw [q] at hy; have : (-1 : Int64).toInt = -1 := rfl; omega), hy]
    have e3 := Int.mul_tdiv_add_tmod x.toInt p
    have e4 := Int.tmod_lt_of_pos x.toInt (b := p) (by omega)
    have e5 := Int.lt_tmod_of_pos x.toInt (b := p) (by omega)
    have h5 : p * x.toInt.tdiv p = x.toInt.tdiv p * p := Int.mul_comm _ _
    have h1 : (x / y * y).toInt = x.toInt.tdiv p * p := by
      rw [l_mul (by rw [hq, hy]; omega) (by rw [hq, hy]; omega), hq, hy]
    have hr : (x - x / y * y).toInt = x.toInt.tmod p := by
      rw [l_sub (by rw [h1]; omega) (by rw [h1]; omega), h1]; omega
    refine ok_nm (fun z hz => ?_)
    subst hz
    obtain ⟨t1, t2, t3⟩ := tm_em (v := x.toInt) (p := p) (by omega)
    refine ok_if (fun q => ?_) (fun q => ?_)
    · rw [lc_ge, xor_sg (by omega)] at q
      exact ok_some (by rw [hr]; exact t1 q)
    · rw [lc_ge, xor_sg (by omega)] at q
      refine ok_if (fun q2 => ?_) (fun q2 => ?_)
      · rw [lc_eq, hr] at q2
        exact ok_some (by rw [hr, t3 q2, q2])
      · rw [lc_eq, hr] at q2
        refine ok_some ?_
        rw [l_add (by rw [hr, hy]; omega) (by rw [hr, hy]; omega), hr, hy]
        exact t2 (by omega) q2
theorem fmi_ok {x : Int32} {p : Nat} (hp : 2 ≤ p) (hp2 : p ≤ 251) (hx1 : -999 ≤ x.toInt) (hx2 : x.toInt ≤ 999) : ok (f_floorMod x (nI p)) (fun r => r.toInt = x.toInt % p) := by
  have hy : (nI p).toInt = (p : Int) := nI_toInt (by omega)
  unfold f_floorMod
  generalize nI p = y at *
  refine ok_nz (fun q => ?_) ?_
  · rw [q] at hy
    have : (0 : Int32).toInt = 0 := rfl
    omega
  · have hq : (x / y).toInt = x.toInt.tdiv p := by
      rw [Int32.toInt_div_of_ne_right _ _ (fun q => by rw [q] at hy; have : (-1 : Int32).toInt = -1 := rfl; omega), hy]
    have e3 := Int.mul_tdiv_add_tmod x.toInt p
    have e4 := Int.tmod_lt_of_pos x.toInt (b := p) (by omega)
    have e5 := Int.lt_tmod_of_pos x.toInt (b := p) (by omega)
    have h5 : p * x.toInt.tdiv p = x.toInt.tdiv p * p := Int.mul_comm _ _
    have h1 : (x / y * y).toInt = x.toInt.tdiv p * p := by
      rw [i_mul (by rw [hq, hy]; omega) (by rw [hq, hy]; omega), hq, hy]
    have hr : (x - x / y * y).toInt = x.toInt.tmod p := by
      rw [i_sub (by rw [h1]; omega) (by rw [h1]; omega), h1]; omega
    refine ok_nm (fun z hz => ?_)
    subst hz
    obtain ⟨t1, t2, t3⟩ := tm_em (v := x.toInt) (p := p) (by omega)
    have z0 : ∀ w : Int32, w = 0 ↔ w.toInt = 0 := fun w => ⟨fun h => by rw [h]; rfl, fun h => Int32.toInt_inj.mp (by rw [h]; rfl)⟩
    refine ok_if (fun q => ?_) (fun q => ?_)
    · have q : 0 ≤ (x ^^^ y).toInt := i_le.mp q
      rw [xor_sgI (by omega)] at q
      exact ok_some (by rw [hr]; exact t1 q)
    · have q : ¬ 0 ≤ (x ^^^ y).toInt := fun h => q (i_le.mpr h)
      rw [xor_sgI (by omega)] at q
      refine ok_if (fun q2 => ?_) (fun q2 => ?_)
      · rw [z0, hr] at q2
        exact ok_some (by rw [hr, t3 q2, q2])
      · rw [z0, hr] at q2
        refine ok_some ?_
        rw [i_add (by rw [hr, hy]; omega) (by rw [hr, hy]; omega), hr, hy]
        exact t2 (by omega) q2
theorem exp_ok {lo mi hi : Nat → Int64} {nb : Nat → Int32} {w : Nat → Int} {p N row S : Nat} (hp : p ∈ PR) (hN : N ≤ 12) (hrow : row < 12) (hS : S < 2 ^ N) (hnb : ∀ f, f < N → -999 ≤ (nb (row * 12 + f)).toInt ∧ (nb (row * 12 + f)).toInt ≤ 999) (hw : ∀ f, f < N → S.testBit f = true → 0 ≤ (lo (tg S f)).toInt ∧ (lo (tg S f)).toInt < p ∧ (mi (tg S f)).toInt = 0 ∧ (hi (tg S f)).toInt = 0 ∧ (p : Int) ∣ (lo (tg S f)).toInt - w (tg S f)) :
    ok (f_M_expand 4096 lo 4096 mi 4096 hi (nI p) (nI N) 144 nb (nI row * 12) (nI S)) (fun r => ∃ a : Int64, r = (vp_updL lo S a, vp_updL mi S 0, vp_updL hi S 0) ∧ 0 ≤ a.toInt ∧ a.toInt < p ∧ (p : Int) ∣ a.toInt - wd N (fun f => (nb (row * 12 + f)).toInt) w S) := by
  have hM := p2_12 hN
  obtain ⟨p0, p1⟩ := pr_le p hp
  unfold f_M_expand
  refine ok_jn (fun k111 => ∀ c b a : Int64, a.toInt = xs S (fun f => (nb (row * 12 + f)).toInt) (fun T => (lo T).toInt) N → b.toInt = xs S (fun f => (nb (row * 12 + f)).toInt) (fun T => (mi T).toInt) N → c.toInt = xs S (fun f => (nb (row * 12 + f)).toInt) (fun T => (hi T).toInt) N → ok (k111 c b a) (fun r => ∃ a : Int64, r = (vp_updL lo S a, vp_updL mi S 0, vp_updL hi S 0) ∧ 0 ≤ a.toInt ∧ a.toInt < p ∧ (p : Int) ∣ a.toInt - wd N (fun f => (nb (row * 12 + f)).toInt) w S)) ?_ (fun k111 h111 => ex_loop (B1 := 251) (B2 := 251) hN hrow hS hnb (by decide) (by decide) (fun f hf hb => by obtain ⟨a1, a2, a3, a4, a5⟩ := hw f hf hb; omega) (fun f hf hb => by obtain ⟨a1, a2, a3, a4, a5⟩ := hw f hf hb; omega) (fun f hf hb => by obtain ⟨a1, a2, a3, a4, a5⟩ := hw f hf hb; omega) h111)
  intro c b a ha hb hc
  have xb1 := xs_bd (S := S) (a := fun f => (nb (row * 12 + f)).toInt) (w := fun T => (lo T).toInt) (B := 251) (e := N) (by decide) hnb (fun f hf hb => by obtain ⟨a1, a2, a3, a4, a5⟩ := hw f hf hb; omega)
  rw [← ha] at xb1
  refine ok_if (fun q => absurd ((nI_eq0 (by omega)).mp q) (by omega)) (fun _ => ?_)
  refine ok_b1 (fml_ok p0 p1 (by omega) (by omega)) ?_
  intro r10 hr
  refine ok_in (vp_in_nI (by omega) (by decide)) (ok_in (vp_in_nI (by omega) (by decide)) (ok_in (vp_in_nI (by omega) (by decide)) ?_))
  rw [nI_clamp (by omega)]
  refine ok_some ⟨r10, rfl, ?_, ?_, ?_⟩
  · rw [hr]; exact Int.emod_nonneg _ (by omega)
  · rw [hr]; exact Int.emod_lt_of_pos _ (by omega)
  · have h1 : (p : Int) ∣ a.toInt - wd N (fun f => (nb (row * 12 + f)).toInt) w S := by
      rw [ha, xs_wd (v := fun T => (lo T).toInt) (fun _ _ _ => rfl)]
      unfold wd
      have := sm_lin N 1 1 0 (fun e => if S.testBit e = true then sg S e * (nb (row * 12 + e)).toInt * (lo (tg S e)).toInt else 0) (fun e => if S.testBit e = true then sg S e * (nb (row * 12 + e)).toInt * w (tg S e) else 0) (fun _ => 0)
      have h2 : (p : Int) ∣ sm N (fun e => 1 * (if S.testBit e = true then sg S e * (nb (row * 12 + e)).toInt * (lo (tg S e)).toInt else 0) - (1 * (if S.testBit e = true then sg S e * (nb (row * 12 + e)).toInt * w (tg S e) else 0) - 0 * 0)) := by
        refine sm_dvd (fun e he => ?_)
        by_cases q : S.testBit e = true
        · rw [if_pos q, if_pos q]
          have h3 := (hw e he q).2.2.2.2
          have e1 : 1 * (sg S e * (nb (row * 12 + e)).toInt * (lo (tg S e)).toInt) - (1 * (sg S e * (nb (row * 12 + e)).toInt * w (tg S e)) - 0 * 0) = sg S e * (nb (row * 12 + e)).toInt * ((lo (tg S e)).toInt - w (tg S e)) := by grind
          rw [e1]
          exact Int.dvd_mul_of_dvd_right h3
        · rw [if_neg q, if_neg q]; exact Int.dvd_zero _
      rw [← this] at h2
      have e2 : ∀ x y z : Int, 1 * x - (1 * y - 0 * z) = x - y := by intros; omega
      rw [e2] at h2
      exact h2
    rw [hr]
    have h2 : (p : Int) ∣ a.toInt % p - a.toInt := by
      have := Int.emod_add_mul_ediv a.toInt p
      exact ⟨-(a.toInt / p), by rw [Int.mul_neg]; omega⟩
    have := Int.dvd_add h2 h1
    rwa [show ∀ x y z : Int, x - y + (y - z) = x - z by intros; omega] at this
