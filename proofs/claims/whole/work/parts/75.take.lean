/-! the class's minors: rows taken -/
theorem l_or0 {a b : Int64} : a ||| b = 0 ↔ a = 0 ∧ b = 0 := by
  constructor
  · intro h
    have h1 : a.toBitVec ||| b.toBitVec = 0#64 := by
      have := congrArg Int64.toBitVec h
      rwa [Int64.toBitVec_or] at this
    have h2 := BitVec.or_eq_zero_iff.mp h1
    exact ⟨Int64.toBitVec_inj.mp h2.1, Int64.toBitVec_inj.mp h2.2⟩
  · rintro ⟨rfl, rfl⟩; decide
theorem l_z0 (w : Int64) : w = 0 ↔ w.toInt = 0 := ⟨fun h => by rw [h]; rfl, fun h => Int64.toInt_inj.mp (by rw [h]; rfl)⟩
theorem so_ok {lo mi hi : Nat → Int64} {S : Nat} (hS : S < 4096) (hd : Dg lo mi S) : ok (f_M_signOf 4096 lo 4096 mi 4096 hi (nI S)) (fun r => r = sI (mval lo mi hi S)) := by
  obtain ⟨d1, d2, d3, d4⟩ := hd
  unfold f_M_signOf
  refine ok_in (vp_in_nI hS (by decide)) ?_
  rw [nI_clamp (by omega)]
  unfold sI mval
  refine ok_if (fun q => ?_) (fun q => ?_)
  · rw [lc_ge] at q
    refine ok_in (vp_in_nI hS (by decide)) (ok_in (vp_in_nI hS (by decide)) (ok_in (vp_in_nI hS (by decide)) ?_))
    refine ok_if (fun q2 => ?_) (fun q2 => ?_)
    · rw [lc_eq, ← l_z0, l_or0, l_or0, l_z0, l_z0, l_z0] at q2
      rw [if_pos (by omega)]; exact ok_some rfl
    · rw [lc_eq, ← l_z0, l_or0, l_or0, l_z0, l_z0, l_z0] at q2
      rw [if_neg (by omega), if_neg (by omega)]; exact ok_some rfl
  · rw [lc_ge] at q
    rw [if_neg (by omega), if_pos (by omega)]; exact ok_some rfl
/-- the columns' sets of N columns, by size -/
def OC (N : Nat) (sets starts : Nat → Int32) (os st : Nat → Nat) : Prop :=
  (∀ a, a < 2 ^ N → sets a = nI (os a) ∧ os a < 2 ^ N) ∧ (∀ k, k ≤ N + 1 → starts k = nI (st k) ∧ st k ≤ 2 ^ N) ∧ (∀ a k, a < 2 ^ N → k ≤ N → ((st k ≤ a ∧ a < st (k + 1)) ↔ cn (os a) = k)) ∧ (∀ S, S < 2 ^ N → ∃ a, a < 2 ^ N ∧ os a = S) ∧ ∀ k, k ≤ N → st k ≤ st (k + 1)
/-- the minors of size k are the form w -/
def CM (m N k : Nat) (lo mi hi : Nat → Int64) (w : Nat → Int) : Prop := ∀ T, T < 2 ^ N → cn T = k → Dg lo mi T ∧ (m = 0 → mval lo mi hi T = w T) ∧ (m ≠ 0 → (mi T).toInt = 0 ∧ (hi T).toInt = 0 ∧ (lo T).toInt < m ∧ (m : Int) ∣ (lo T).toInt - w T)
theorem CM_z {m N k : Nat} {lo mi hi : Nat → Int64} {w : Nat → Int} (h : CM m N k lo mi hi w) {T : Nat} (hT : T < 2 ^ N) (hc : cn T = k) : sI (mval lo mi hi T) = 0 ↔ (m : Int) ∣ w T := by
  obtain ⟨h1, h2, h3⟩ := h T hT hc
  rw [sI_0]
  by_cases q : m = 0
  · subst q; rw [h2 rfl]; exact z_dvd.symm
  · obtain ⟨a1, a2, a3, a4⟩ := h3 q
    rw [← dv_tr a4]
    unfold mval
    rw [a1, a2]
    constructor
    · intro h; have : (lo T).toInt = 0 := by omega
      rw [this]; exact Int.dvd_zero _
    · intro h
      have : (lo T).toInt = 0 := by
        obtain ⟨d1, d2, d3, d4⟩ := h1
        have := Int.emod_eq_zero_of_dvd h
        rw [Int.emod_eq_of_lt d1 a3] at this
        exact this
      omega
theorem tg_cn {S e N : Nat} (hS : S < 2 ^ N) (hN : N ≤ 12) (he : e < N) (hb : S.testBit e = true) : cn (tg S e) + 1 = cn S := by
  have h := cnt_tg (n := 12) (e := e) (by omega) S
  rw [if_pos hb, if_pos hb] at h
  unfold cn
  omega
/-- takeRow: the next size's minors, and whether one is not 0 -/
theorem tr_okQ {Q : (Int32 × (Nat → Int64) × (Nat → Int64) × (Nat → Int64)) → Prop} {lo mi hi : Nat → Int64} {nb sets starts : Nat → Int32} {os st : Nat → Nat} {w : Nat → Int} {m N row k : Nat} (hm : FdP m) (hN : N ≤ 12) (hrow : row < 12) (hk : k < N) (hO : OC N sets starts os st) (hnb : ∀ f, f < N → -999 ≤ (nb (row * 12 + f)).toInt ∧ (nb (row * 12 + f)).toInt ≤ 999) (hC : CM m N k lo mi hi w) (hwb : ∀ T, T < 2 ^ N → (w T).natAbs ≤ fbd 999 11)
    (hQ : ∀ (r : Int32) (lo' mi' hi' : Nat → Int64), CM m N k lo' mi' hi' w → CM m N (k + 1) lo' mi' hi' (wd N (fun f => (nb (row * 12 + f)).toInt) w) → (r = 1 ∧ (∃ S, S < 2 ^ N ∧ cn S = k + 1 ∧ ¬ (m : Int) ∣ wd N (fun f => (nb (row * 12 + f)).toInt) w S) ∨ r = 0 ∧ ∀ S, S < 2 ^ N → cn S = k + 1 → (m : Int) ∣ wd N (fun f => (nb (row * 12 + f)).toInt) w S) → Q (r, lo', mi', hi')) :
    ok (f_M_takeRow 4096 lo 4096 mi 4096 hi (nI m) (nI N) 144 nb 4096 sets 14 starts (nI row) (nI k + 1)) Q := by
  have hM := p2_12 hN
  obtain ⟨o1, o2, o3, o4, o5⟩ := hO
  unfold f_M_takeRow
  rw [nI_1]
  refine ok_in (vp_in_nI (by omega) (by decide)) ?_
  refine ok_nmr (nI (st (k + 1))) (by rw [nI_clamp (by omega), (o2 (k + 1) (by omega)).1]) ?_
  have hs1 := (o2 (k + 1) (by omega)).2
  have hs2 := (o2 (k + 1 + 1) (by omega)).2
  refine lo5_F (fun v f lo' mi' hi' => ∃ a : Nat, st (k + 1) ≤ a ∧ a ≤ st (k + 1 + 1) ∧ v = nI a ∧ (∀ T, T < 2 ^ N → cn T = k → lo' T = lo T ∧ mi' T = mi T ∧ hi' T = hi T) ∧ (∀ b, st (k + 1) ≤ b → b < a → Dg lo' mi' (os b) ∧ (m = 0 → mval lo' mi' hi' (os b) = wd N (fun f => (nb (row * 12 + f)).toInt) w (os b)) ∧ (m ≠ 0 → (mi' (os b)).toInt = 0 ∧ (hi' (os b)).toInt = 0 ∧ (lo' (os b)).toInt < m ∧ (m : Int) ∣ (lo' (os b)).toInt - wd N (fun f => (nb (row * 12 + f)).toInt) w (os b))) ∧ (f = 1 ∧ (∃ S, S < 2 ^ N ∧ cn S = k + 1 ∧ ¬ (m : Int) ∣ wd N (fun f => (nb (row * 12 + f)).toInt) w S) ∨ f = 0 ∧ ∀ b, st (k + 1) ≤ b → b < a → (m : Int) ∣ wd N (fun f => (nb (row * 12 + f)).toInt) w (os b))) (fun v _ _ _ _ => st (k + 1 + 1) - v.toNatClampNeg) ?_ ⟨st (k + 1), Nat.le_refl _, o5 (k + 1) (by omega), rfl, fun _ _ _ => ⟨rfl, rfl, rfl⟩, fun b h1 h2 => absurd h1 (by omega), Or.inr ⟨rfl, fun b h1 h2 => absurd h1 (by omega)⟩⟩ (by omega)
  rintro kr v f lo' mi' hi' ⟨a, ha1, ha2, rfl, h1, h2, h3⟩ ih
  rw [nI_1]
  refine ok_in (vp_in_nI (by omega) (by decide)) ?_
  rw [nI_clamp (by omega), (o2 (k + 1 + 1) (by omega)).1]
  refine ok_if (fun q => ?_) (fun q => ?_)
  · have e : a = st (k + 1 + 1) := by
      have := (nI_leI (by omega) (by omega)).mp q
      omega
    subst e
    have hz : f = 0 ∨ f = 1 := by
      rcases h3 with h3 | h3
      · exact Or.inr h3.1
      · exact Or.inl h3.1
    refine ok_z hz (ok_some (hQ f lo' mi' hi' ?_ ?_ ?_))
    · intro T hT hc
      obtain ⟨e1, e2, e3⟩ := h1 T hT hc
      have := hC T hT hc
      unfold Dg mval at *
      rw [e1, e2, e3]; exact this
    · intro T hT hc
      obtain ⟨b, b1, rfl⟩ := o4 T hT
      have := (o3 b (k + 1) b1 (by omega)).mpr hc
      exact h2 b this.1 this.2
    · rcases h3 with h3 | ⟨h3, h4⟩
      · exact Or.inl h3
      · refine Or.inr ⟨h3, fun S hS hc => ?_⟩
        obtain ⟨b, b1, rfl⟩ := o4 S hS
        have := (o3 b (k + 1) b1 (by omega)).mpr hc
        exact h4 b this.1 this.2
  · have hlt : a < st (k + 1 + 1) := by
      rcases Nat.lt_or_ge a (st (k + 1 + 1)) with q1 | q1
      · exact q1
      · exact absurd ((nI_leI (by omega) (by omega)).mpr q1) q
    have haM : a < 2 ^ N := by omega
    obtain ⟨s1, s2⟩ := o1 a haM
    have hcn : cn (os a) = k + 1 := (o3 a (k + 1) haM (by omega)).mp ⟨ha1, hlt⟩
    refine ok_in (vp_in_nI (by omega) (by decide)) ?_
    refine ok_nmr (nI (os a)) (by rw [nI_clamp (by omega), s1]) ?_
    have hun : ∀ f, f < N → (os a).testBit f = true → tg (os a) f < 2 ^ N ∧ cn (tg (os a) f) = k := by
      intro f hf hb
      have := tg_cn s2 hN hf hb
      exact ⟨tg_lt s2 hf, by omega⟩
    refine ok_b3 (Q1 := fun r => ∃ x y z : Int64, r = (vp_updL lo' (os a) x, vp_updL mi' (os a) y, vp_updL hi' (os a) z) ∧ Dg r.1 r.2.1 (os a) ∧ (m = 0 → mval r.1 r.2.1 r.2.2 (os a) = wd N (fun f => (nb (row * 12 + f)).toInt) w (os a)) ∧ (m ≠ 0 → (r.2.1 (os a)).toInt = 0 ∧ (r.2.2 (os a)).toInt = 0 ∧ (r.1 (os a)).toInt < m ∧ (m : Int) ∣ (r.1 (os a)).toInt - wd N (fun f => (nb (row * 12 + f)).toInt) w (os a))) ?_ ?_
    · by_cases m0 : m = 0
      · subst m0
        refine ok_mono (ex0_ok (w := w) hN hrow s2 hnb (fun f hf hb => ?_)) ?_
        · obtain ⟨u1, u2⟩ := hun f hf hb
          obtain ⟨e1, e2, e3⟩ := h1 _ u1 u2
          obtain ⟨c1, c2, -⟩ := hC _ u1 u2
          unfold Dg mval at *
          rw [e1, e2, e3]
          exact ⟨c1, c2 rfl, hwb _ u1⟩
        · rintro r ⟨x, y, z, e1, e2, e3⟩
          exact ⟨x, y, z, e1, e2, fun _ => e3, fun h => absurd rfl h⟩
      · have hp : m ∈ PR := by
          rcases hm with q | q
          · exact absurd q m0
          · exact q
        obtain ⟨p0, p1⟩ := pr_le m hp
        refine ok_mono (exp_ok (w := w) hp hN hrow s2 hnb (fun f hf hb => ?_)) ?_
        · obtain ⟨u1, u2⟩ := hun f hf hb
          obtain ⟨e1, e2, e3⟩ := h1 _ u1 u2
          obtain ⟨c1, -, c3⟩ := hC _ u1 u2
          obtain ⟨c4, c5, c6, c7⟩ := c3 m0
          rw [e1, e2, e3]
          exact ⟨c1.1, c6, c4, c5, c7⟩
        · rintro r ⟨x, e1, e2, e3, e4⟩
          refine ⟨x, 0, 0, e1, ?_, fun h => absurd h m0, fun _ => ?_⟩
          · rw [e1]; unfold Dg; dsimp only; rw [uL_s, uL_s]
            have : (0 : Int64).toInt = 0 := rfl
            omega
          · rw [e1]; dsimp only; rw [uL_s, uL_s, uL_s]
            exact ⟨rfl, rfl, e3, e4⟩
    · rintro u1 u2 u3 ⟨x, y, z, e1, e2, e3, e4⟩
      dsimp only at e2 e3 e4
      have f1 := (Prod.mk.inj e1).1
      have f2 := (Prod.mk.inj (Prod.mk.inj e1).2).1
      have f3 := (Prod.mk.inj (Prod.mk.inj e1).2).2
      refine ok_b1 (so_ok (by omega) e2) ?_
      rintro r17 rfl
      have hzz : sI (mval u1 u2 u3 (os a)) = 0 ↔ (m : Int) ∣ wd N (fun f => (nb (row * 12 + f)).toInt) w (os a) := by
        have := CM_z (m := m) (N := N) (k := k + 1) (lo := fun T => if T = os a then u1 T else 0) (mi := fun T => if T = os a then u2 T else 0) (hi := fun T => if T = os a then u3 T else 0) (w := fun T => if T = os a then wd N (fun f => (nb (row * 12 + f)).toInt) w T else 0) (fun T hT hc => by
          by_cases q5 : T = os a
          · subst q5
            unfold Dg mval at *
            simp only [if_pos]
            exact ⟨e2, e3, e4⟩
          · unfold Dg mval
            simp only [if_neg q5]
            have h0 : (0 : Int64).toInt = 0 := rfl
            refine ⟨by omega, fun _ => by rw [h0]; rfl, fun hm0 => ⟨rfl, rfl, by rw [h0]; omega, by rw [h0]; exact Int.dvd_zero _⟩⟩) s2 hcn
        unfold mval at *
        simp only [if_pos] at this
        exact this
      refine ok_jn (fun k58 => ∀ f' : Int32, (f' = 1 ∧ (∃ S, S < 2 ^ N ∧ cn S = k + 1 ∧ ¬ (m : Int) ∣ wd N (fun f => (nb (row * 12 + f)).toInt) w S) ∨ f' = 0 ∧ ∀ b, st (k + 1) ≤ b → b < a + 1 → (m : Int) ∣ wd N (fun f => (nb (row * 12 + f)).toInt) w (os b)) → ok (k58 f') Q) ?_ ?_
      · intro f' hf'
        refine ok_nmr (nI (a + 1)) (nI_1 ..) ?_
        refine ih _ _ _ _ _ ⟨a + 1, by omega, hlt, rfl, fun T hT hc => ?_, fun b hb1 hb2 => ?_, hf'⟩ (by rw [nI_clamp (by omega), nI_clamp (by omega)]; omega)
        · have hne : T ≠ os a := fun e => by rw [e] at hc; omega
          rw [f1, f2, f3, uL_n hne, uL_n hne, uL_n hne]; exact h1 T hT hc
        · by_cases q5 : os b = os a
          · rw [q5]; exact ⟨e2, e3, e4⟩
          · have hba : b ≠ a := fun e => q5 (by rw [e])
            have := h2 b hb1 (by omega)
            unfold Dg mval at *
            rw [f1, f2, f3, uL_n q5, uL_n q5, uL_n q5]; exact this
      · intro k58 h58
        refine ok_if (fun q3 => ?_) (fun q3 => ?_)
        · have hd := hzz.mp q3
          refine h58 f ?_
          rcases h3 with h3 | ⟨h3, h4⟩
          · exact Or.inl h3
          · refine Or.inr ⟨h3, fun b hb1 hb2 => ?_⟩
            by_cases q5 : b = a
            · rw [q5]; exact hd
            · exact h4 b hb1 (by omega)
        · exact h58 1 (Or.inl ⟨rfl, os a, s2, hcn, fun hd => q3 (hzz.mpr hd)⟩)
