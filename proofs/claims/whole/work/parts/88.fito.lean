/-! the class's order of sets -/
def rv : Nat → Nat → Nat
  | 0, _ => 0
  | N + 1, x => (x % 2) * 2 ^ N + rv N (x / 2)
def kap (S : Nat) : Nat := cn S * 4096 + (4095 - rv 12 S)
theorem rv_all : (List.range 13).all (fun N => (List.range (2 ^ N)).all (fun x => decide (rv N x < 2 ^ N) && decide (rv N (rv N x) = x) && decide (rv 12 x = rv N x * 2 ^ (12 - N)) && (if x = 0 then (f_O_oneLess (nI N) (nI x)).isSome else decide (f_O_oneLess (nI N) (nI x) = some (nI (rv N (rv N x - 1))))))) = true := by decide +kernel
theorem rv_at {N x : Nat} (hN : N ≤ 12) (hx : x < 2 ^ N) : rv N x < 2 ^ N ∧ rv N (rv N x) = x ∧ rv 12 x = rv N x * 2 ^ (12 - N) ∧ (if x = 0 then (f_O_oneLess (nI N) (nI x)).isSome = true else f_O_oneLess (nI N) (nI x) = some (nI (rv N (rv N x - 1)))) := by
  have h := List.all_eq_true.mp (List.all_eq_true.mp rv_all N (List.mem_range.mpr (by omega))) x (List.mem_range.mpr hx)
  simp only [Bool.and_eq_true, decide_eq_true_eq] at h
  refine ⟨h.1.1.1, h.1.1.2, h.1.2, ?_⟩
  by_cases q : x = 0
  · rw [if_pos q]; have := h.2; rw [if_pos q] at this; exact this
  · rw [if_neg q]; have := h.2; rw [if_neg q] at this; exact of_decide_eq_true this
def stf (N : Nat) : Nat → Nat
  | 0 => 0
  | k + 1 => stf N k + ch N k
theorem stf_all : (List.range 13).all (fun N => decide (stf N (N + 1) = 2 ^ N) && decide (rv N (2 ^ N - 1) = 2 ^ N - 1)) = true := by decide +kernel
theorem stf_at {N : Nat} (hN : N ≤ 12) : stf N (N + 1) = 2 ^ N ∧ rv N (2 ^ N - 1) = 2 ^ N - 1 := by
  have h := List.all_eq_true.mp stf_all N (List.mem_range.mpr (by omega))
  simp only [Bool.and_eq_true, decide_eq_true_eq] at h
  exact h
theorem stf_mono {N a b : Nat} (h : a ≤ b) : stf N a ≤ stf N b := by
  induction h with
  | refl => exact Nat.le_refl _
  | step _ ih => exact Nat.le_trans ih (Nat.le_add_right _ _)
theorem cn_pw {N j : Nat} (hN : N < 12) (hj : j < 2 ^ N) : cn (2 ^ N + j) = cn j + 1 := by
  have h1 : j.testBit N = false := Nat.testBit_lt_two_pow hj
  have h2 : 2 ^ N + j = tg j N := by
    have := Nat.two_pow_add_eq_or_of_lt hj 1
    rw [Nat.mul_one] at this
    rw [this, Nat.or_comm, tg_or h1]
  have h3 := cnt_tg (n := 12) (e := N) hN j
  rw [if_neg (by rw [h1]; decide), if_neg (by rw [h1]; decide)] at h3
  rw [h2]
  unfold cn
  omega
theorem ch_cnt {N k : Nat} (hN : N ≤ 12) : cnt (2 ^ N) (fun S => decide (cn S = k)) = ch N k := by
  induction N generalizing k with
  | zero =>
    show cnt 0 _ + (if decide (cn 0 = k) = true then 1 else 0) = _
    have h0 : cn 0 = 0 := by decide
    rw [h0]
    cases k with
    | zero => rfl
    | succ k => rfl
  | succ N ih =>
    have e : 2 ^ (N + 1) = 2 ^ N + 2 ^ N := by rw [Nat.pow_succ]; omega
    rw [e, cnt_app, ih (by omega)]
    cases k with
    | zero =>
      rw [cnt_z (fun j hj => by rw [cn_pw (by omega) hj]; simp), ch_0, ch_0]
    | succ k =>
      have : cnt (2 ^ N) (fun j => decide (cn (2 ^ N + j) = k + 1)) = cnt (2 ^ N) (fun j => decide (cn j = k)) := cnt_congr (fun j hj => by rw [cn_pw (by omega) hj]; simp)
      rw [this, ih (by omega)]
      show ch N (k + 1) + ch N k = ch N k + ch N (k + 1)
      omega
/-- the class's order, in the object's arrays -/
def OX (N : Nat) (sets starts : Nat → Int32) : Prop := starts 0 = 0 ∧ ∃ os st, OC N sets starts os st ∧ Od (2 ^ N) kap os
theorem cnt_mono {a b : Nat} {f : Nat → Bool} (h : a ≤ b) : cnt a f ≤ cnt b f := by
  induction h with
  | refl => exact Nat.le_refl _
  | step _ ih => exact Nat.le_trans ih (Nat.le_add_right _ _)
theorem OX_of {N : Nat} {sets starts : Nat → Int32} (hN : N ≤ 12) (h0 : starts 0 = 0) (hst : ∀ k, k ≤ N + 1 → starts k = nI (stf N k)) (hs : ∀ s, s < 2 ^ N → sets (stf N (cn (rv N (2 ^ N - 1 - s))) + cnt s (fun s' => decide (cn (rv N (2 ^ N - 1 - s')) = cn (rv N (2 ^ N - 1 - s))))) = nI (rv N (2 ^ N - 1 - s))) : OX N sets starts := by
  have hM := p2_12 hN
  have hP := Nat.two_pow_pos N
  obtain ⟨sN1, -⟩ := stf_at hN
  generalize hu : (fun s => rv N (2 ^ N - 1 - s)) = u at *
  have hua : ∀ s, rv N (2 ^ N - 1 - s) = u s := fun s => by rw [← hu]
  have hul : ∀ s, s < 2 ^ N → u s < 2 ^ N := fun s hs => by rw [← hua]; exact (rv_at hN (by omega)).1
  have hur : ∀ s, s < 2 ^ N → rv N (u s) = 2 ^ N - 1 - s := fun s hs => by rw [← hua]; exact (rv_at hN (by omega)).2.1
  have hui : ∀ a b, a < 2 ^ N → b < 2 ^ N → u a = u b → a = b := fun a b ha hb e => by
    have h1 := hur a ha
    have h2 := hur b hb
    rw [e] at h1; omega
  have hcn : ∀ S, S < 2 ^ N → cn S ≤ N := fun S hS => by rw [← cn_N hS hN]; exact cnt_bd
  have htot : ∀ k, cnt (2 ^ N) (fun s => decide (cn (u s) = k)) = ch N k := fun k => by
    rw [cnt_perm (P := fun S => decide (cn S = k)) hul hui, ch_cnt hN]
  generalize hpos : (fun s => stf N (cn (u s)) + cnt s (fun s' => decide (cn (u s') = cn (u s)))) = pos
  have hpa : ∀ s, pos s = stf N (cn (u s)) + cnt s (fun s' => decide (cn (u s') = cn (u s))) := fun s => by rw [← hpos]
  have hs' : ∀ s, s < 2 ^ N → sets (pos s) = nI (u s) := fun s hs2 => by rw [hpa]; have := hs s hs2; simp only [hua] at this; exact this
  have hpb : ∀ s, s < 2 ^ N → stf N (cn (u s)) ≤ pos s ∧ pos s < stf N (cn (u s) + 1) := by
    intro s hs2
    have h1 := cnt_lt (f := fun s' => decide (cn (u s') = cn (u s))) hs2 (by simp)
    rw [htot] at h1
    rw [hpa]
    have : stf N (cn (u s) + 1) = stf N (cn (u s)) + ch N (cn (u s)) := rfl
    omega
  have hsur : ∀ a k, k ≤ N → stf N k ≤ a → a < stf N (k + 1) → ∃ s, s < 2 ^ N ∧ pos s = a ∧ cn (u s) = k := by
    intro a k hk h1 h2
    obtain ⟨t, t1, t2⟩ := cnt_enum (2 ^ N) (fun s => decide (cn (u s) = k))
    have e : stf N (k + 1) = stf N k + ch N k := rfl
    obtain ⟨a1, a2, a3⟩ := t1 (a - stf N k) (by rw [htot]; omega)
    have a2 : cn (u (t (a - stf N k))) = k := of_decide_eq_true a2
    refine ⟨t (a - stf N k), a1, ?_, a2⟩
    rw [hpa, a2, a3]; omega
  have hbk : ∀ m a, m ≤ N + 1 → a < stf N m → ∃ k, k < m ∧ stf N k ≤ a ∧ a < stf N (k + 1) := by
    intro m
    induction m with
    | zero => intro a _ h; exact absurd h (by show ¬ a < 0; omega)
    | succ m ih =>
      intro a hm h
      rcases Nat.lt_or_ge a (stf N m) with q | q
      · obtain ⟨k, k1, k2, k3⟩ := ih a (by omega) q
        exact ⟨k, by omega, k2, k3⟩
      · exact ⟨m, by omega, q, h⟩
  have hall : ∀ a, a < 2 ^ N → ∃ s, s < 2 ^ N ∧ pos s = a := by
    intro a ha
    obtain ⟨k, k1, k2, k3⟩ := hbk (N + 1) a (Nat.le_refl _) (by omega)
    obtain ⟨s, s1, s2, -⟩ := hsur a k (by omega) k2 k3
    exact ⟨s, s1, s2⟩
  have hos : ∀ s, s < 2 ^ N → (sets (pos s)).toNatClampNeg = u s := fun s hs2 => by
    rw [hs' s hs2, nI_clamp (by have := hul s hs2; omega)]
  refine ⟨h0, fun a => (sets a).toNatClampNeg, stf N, ⟨fun a ha => ?_, fun k hk => ⟨hst k hk, ?_⟩, fun a k ha hk => ?_, fun S hS => ?_, fun k _ => Nat.le_add_right _ _⟩, fun a ha => ?_, fun a b hab hb => ?_⟩
  · obtain ⟨s, s1, rfl⟩ := hall a ha
    have := hul s s1
    dsimp only
    rw [hos s s1]; exact ⟨hs' s s1, this⟩
  · have := stf_mono (N := N) hk; omega
  · obtain ⟨s, s1, rfl⟩ := hall a ha
    show _ ↔ cn ((sets (pos s)).toNatClampNeg) = k
    rw [hos s s1]
    obtain ⟨b1, b2⟩ := hpb s s1
    constructor
    · rintro ⟨c1, c2⟩
      rcases Nat.lt_trichotomy (cn (u s)) k with q | q | q
      · have := stf_mono (N := N) (show cn (u s) + 1 ≤ k by omega); omega
      · exact q
      · have := stf_mono (N := N) (show k + 1 ≤ cn (u s) by omega); omega
    · intro e; rw [← e]; exact ⟨b1, b2⟩
  · have h1 := rv_at hN hS
    refine ⟨pos (2 ^ N - 1 - rv N S), ?_, ?_⟩
    · have h2 := hpb (2 ^ N - 1 - rv N S) (by omega)
      have h3 := hcn _ (hul (2 ^ N - 1 - rv N S) (by omega))
      have h4 := stf_mono (N := N) (show cn (u (2 ^ N - 1 - rv N S)) + 1 ≤ N + 1 by omega)
      omega
    · dsimp only
      rw [hos _ (by omega), ← hua, show 2 ^ N - 1 - (2 ^ N - 1 - rv N S) = rv N S by omega]
      exact h1.2.1
  · obtain ⟨s, s1, rfl⟩ := hall a ha
    show (sets (pos s)).toNatClampNeg < 2 ^ N
    rw [hos s s1]; exact hul s s1
  · obtain ⟨s, s1, rfl⟩ := hall a (by omega)
    obtain ⟨s', s2, rfl⟩ := hall b hb
    show kap ((sets (pos s)).toNatClampNeg) < kap ((sets (pos s')).toNatClampNeg)
    rw [hos s s1, hos s' s2]
    obtain ⟨b1, b2⟩ := hpb s s1
    obtain ⟨b3, b4⟩ := hpb s' s2
    unfold kap
    have r1 := rv_at (N := 12) (Nat.le_refl _) (show u s < 2 ^ 12 by have := hul s s1; omega)
    have r2 := rv_at (N := 12) (Nat.le_refl _) (show u s' < 2 ^ 12 by have := hul s' s2; omega)
    have g1 := (rv_at hN (hul s s1)).2.2.1
    have g2 := (rv_at hN (hul s' s2)).2.2.1
    rcases Nat.lt_trichotomy (cn (u s)) (cn (u s')) with q | q | q
    · omega
    · have hlt : s < s' := by
        rcases Nat.lt_or_ge s s' with q2 | q2
        · exact q2
        · exfalso
          rw [hpa, hpa, q] at hab
          have := cnt_mono (f := fun x => decide (cn (u x) = cn (u s'))) q2
          omega
      have h5 : rv N (u s') < rv N (u s) := by rw [hur s s1, hur s' s2]; omega
      have h6 : rv N (u s') * 2 ^ (12 - N) < rv N (u s) * 2 ^ (12 - N) := Nat.mul_lt_mul_of_pos_right h5 (Nat.two_pow_pos _)
      have h7 := r1.1
      have h8 := r2.1
      omega
    · exfalso
      have := stf_mono (N := N) (show cn (u s') + 1 ≤ cn (u s) by omega)
      omega
theorem ft_ok {cc : Int32} {sets starts nexts : Nat → Int32} {N0 N : Nat} (hN0 : N0 ≤ 12) (hN : N ≤ 12) (hcc : cc = nI N0) (hO : OX N0 sets starts) : ok (f_O_fit cc 4096 sets 14 starts 13 nexts (nI N)) (fun r => r.1 = nI N ∧ OX N r.2.1 r.2.2.1) := by
  have hM := p2_12 hN
  have hP := Nat.two_pow_pos N
  obtain ⟨sN1, rN1⟩ := stf_at hN
  unfold f_O_fit
  refine ok_if (fun q => ?_) (fun q => ?_)
  · rw [hcc] at q
    have := (nI_eq (by omega) (by omega)).mp q
    subst this
    exact ok_some ⟨hcc, hO⟩
  · refine ok_nmr (nI (2 ^ N)) (by rw [nI_31 (by omega), nI_shl (by omega)]) ?_
    refine ok_jn (fun k72 => ∀ w3 w4 : Nat → Int32, w3 0 = 0 → (∀ k, k ≤ N + 1 → w3 k = nI (stf N k)) → (∀ k, k ≤ N → w4 k = nI (stf N k)) → ok (k72 w3 w4) (fun r => r.1 = nI N ∧ OX N r.2.1 r.2.2.1)) ?_ ?_
    · intro w3 w4 h0 h3 h4
      refine ok_nmr (nI (2 ^ N - 1)) (nI_sub1 hP) ?_
      have hul : ∀ s, s < 2 ^ N → rv N (2 ^ N - 1 - s) < 2 ^ N := fun s hs => (rv_at hN (by omega)).1
      have hur : ∀ s, s < 2 ^ N → rv N (rv N (2 ^ N - 1 - s)) = 2 ^ N - 1 - s := fun s hs => (rv_at hN (by omega)).2.1
      have hui : ∀ a b, a < 2 ^ N → b < 2 ^ N → rv N (2 ^ N - 1 - a) = rv N (2 ^ N - 1 - b) → a = b := fun a b ha hb e => by
        have h1 := hur a ha
        have h2 := hur b hb
        rw [e] at h1; omega
      have htot : ∀ k, cnt (2 ^ N) (fun s => decide (cn (rv N (2 ^ N - 1 - s)) = k)) = ch N k := fun k => by
        rw [cnt_perm (os := fun s => rv N (2 ^ N - 1 - s)) (P := fun S => decide (cn S = k)) hul hui, ch_cnt hN]
      refine lo4_F (fun v x w8 w9 => ∃ s : Nat, s ≤ 2 ^ N ∧ v = nI s ∧ (s < 2 ^ N → x = nI (rv N (2 ^ N - 1 - s))) ∧ (∀ k, k ≤ N → w9 k = nI (stf N k + cnt s (fun s' => decide (cn (rv N (2 ^ N - 1 - s')) = k)))) ∧ ∀ a, a < s → w8 (stf N (cn (rv N (2 ^ N - 1 - a))) + cnt a (fun s' => decide (cn (rv N (2 ^ N - 1 - s')) = cn (rv N (2 ^ N - 1 - a))))) = nI (rv N (2 ^ N - 1 - a))) (fun v _ _ _ => 2 ^ N - v.toNatClampNeg) ?_ ⟨0, Nat.zero_le _, nI_0.symm, fun _ => by rw [Nat.sub_zero, rN1], fun k hk => by rw [h4 k hk]; rfl, fun a ha => absurd ha (by omega)⟩ (by omega)
      rintro kr v x w8 w9 ⟨s, hs, rfl, g1, g2, g3⟩ ih
      refine ok_if (fun q2 => ?_) (fun q2 => ?_)
      · have e : s = 2 ^ N := by
          have := (nI_leI (by omega) (by omega)).mp q2
          omega
        subst e
        exact ok_some ⟨rfl, OX_of hN h0 h3 g3⟩
      · have hlt : s < 2 ^ N := by
          rcases Nat.lt_or_ge s (2 ^ N) with q1 | q1
          · exact q1
          · exact absurd ((nI_leI (by omega) (by omega)).mpr q1) q2
        rw [g1 hlt]
        have hl := hul s hlt
        generalize hU : rv N (2 ^ N - 1 - s) = U at *
        have hcU : cn U ≤ N := by rw [← cn_N hl hN]; exact cnt_bd
        have hc12 := cn_le U
        have hlow : cnt s (fun s' => decide (cn (rv N (2 ^ N - 1 - s')) = cn U)) < ch N (cn U) := by
          rw [← htot]
          exact cnt_lt hlt (by simp [hU])
        have e1 : stf N (cn U + 1) = stf N (cn U) + ch N (cn U) := rfl
        have e2 := stf_mono (N := N) (show cn U + 1 ≤ N + 1 by omega)
        refine ok_b1 (bc_ok (by omega)) ?_
        rintro r11 rfl
        refine ok_in (vp_in_nI (by omega) (by decide)) ?_
        rw [nI_clamp (by omega), g2 _ hcU]
        refine ok_in (vp_in_nI (by omega) (by decide)) (ok_in (vp_in_nI (by omega) (by decide)) (ok_in (vp_in_nI (by omega) (by decide)) ?_))
        have hone := (rv_at hN hl).2.2.2
        have hrU : rv N U = 2 ^ N - 1 - s := by rw [← hU]; exact hur s hlt
        refine ok_b1 (Q1 := fun r => s + 1 < 2 ^ N → r = nI (rv N (2 ^ N - 1 - (s + 1)))) ?_ ?_
        · by_cases q3 : U = 0
          · rw [if_pos q3] at hone
            obtain ⟨r, hr⟩ := Option.isSome_iff_exists.mp hone
            refine ⟨r, hr, fun hs2 => ?_⟩
            exfalso
            rw [q3] at hrU
            have h9 := (rv_at hN (show 2 ^ N - 1 - s < 2 ^ N by omega)).2.1
            rw [hU, q3] at h9
            have z : rv N 0 = 0 := by
              have : ∀ M, rv M 0 = 0 := by
                intro M
                induction M with
                | zero => rfl
                | succ M ih => simp only [rv]; rw [Nat.zero_mod, Nat.zero_mul, Nat.zero_div, ih]
              exact this N
            omega
          · rw [if_neg q3] at hone
            refine ⟨_, hone, fun hs2 => ?_⟩
            rw [hrU]
            congr 2
        · intro r17 hr
          refine ok_nmr (nI (s + 1)) (nI_1 ..) ?_
          rw [nI_clamp (by omega), nI_1]
          refine ih _ _ _ _ ⟨s + 1, hlt, rfl, hr, fun k hk => ?_, fun a ha => ?_⟩ (by rw [nI_clamp (by omega), nI_clamp (by omega)]; omega)
          · have hc : cnt (s + 1) (fun s' => decide (cn (rv N (2 ^ N - 1 - s')) = k)) = cnt s (fun s' => decide (cn (rv N (2 ^ N - 1 - s')) = k)) + (if decide (cn (rv N (2 ^ N - 1 - s)) = k) = true then 1 else 0) := rfl
            rw [hc, hU]
            by_cases q3 : k = cn U
            · subst q3
              rw [pk_us, if_pos (by simp)]; rfl
            · rw [pk_un q3, g2 k hk, if_neg (by simp; omega)]; rfl
          · by_cases q3 : a = s
            · subst q3
              rw [hU, pk_us]
            · have h5 := g3 a (by omega)
              have hla := hul a (by omega)
              have hca : cn (rv N (2 ^ N - 1 - a)) ≤ N := by rw [← cn_N hla hN]; exact cnt_bd
              have hlowa : cnt a (fun s' => decide (cn (rv N (2 ^ N - 1 - s')) = cn (rv N (2 ^ N - 1 - a)))) < ch N (cn (rv N (2 ^ N - 1 - a))) := by
                rw [← htot]
                exact cnt_lt (by omega) (by simp)
              have e3 : stf N (cn (rv N (2 ^ N - 1 - a)) + 1) = stf N (cn (rv N (2 ^ N - 1 - a))) + ch N (cn (rv N (2 ^ N - 1 - a))) := rfl
              rw [pk_un, h5]
              rcases Nat.lt_trichotomy (cn (rv N (2 ^ N - 1 - a))) (cn U) with q4 | q4 | q4
              · have := stf_mono (N := N) (show cn (rv N (2 ^ N - 1 - a)) + 1 ≤ cn U by omega); omega
              · rw [q4]
                have h6 := cnt_lt (f := fun s' => decide (cn (rv N (2 ^ N - 1 - s')) = cn U)) (show a < s by omega) (by simp [q4])
                omega
              · have := stf_mono (N := N) (show cn U + 1 ≤ cn (rv N (2 ^ N - 1 - a)) by omega); omega
    · intro k72 h72
      have hz0 : ∀ j, j ≤ 0 → starts j = nI (stf N j) := by
        intro j hj
        have e : j = 0 := by omega
        rw [e]; exact hO.1
      refine lo3_F (fun v w3 w4 => ∃ k : Nat, k ≤ N + 1 ∧ v = nI k ∧ w3 0 = 0 ∧ (∀ j, j ≤ k → w3 j = nI (stf N j)) ∧ ∀ j, j < k → w4 j = nI (stf N j)) (fun v _ _ => N + 1 - v.toNatClampNeg) ?_ ⟨0, Nat.zero_le _, nI_0.symm, hO.1, hz0, fun j hj => absurd hj (by omega)⟩ (by omega)
      rintro kr v w3 w4 ⟨k, hk, rfl, g0, g1, g2⟩ ih
      refine ok_if (fun q2 => ?_) (fun q2 => ?_)
      · have := (nI_ltI (by omega) (by omega)).mp q2
        have e : k = N + 1 := by omega
        subst e
        exact h72 w3 w4 g0 g1 (fun k hk => g2 k (by omega))
      · have hlt : k ≤ N := by
          rcases Nat.lt_or_ge N k with q1 | q1
          · exact absurd ((nI_ltI (by omega) (by omega)).mpr q1) q2
          · exact q1
        have e2 := stf_mono (N := N) (show k + 1 ≤ N + 1 by omega)
        refine ok_in (vp_in_nI (by omega) (by decide)) (ok_in (vp_in_nI (by omega) (by decide)) (ok_in (vp_in_nI (by omega) (by decide)) ?_))
        refine ok_b1 (ch_ok hN hlt) ?_
        rintro r27 rfl
        rw [nI_1]
        refine ok_in (vp_in_nI (by omega) (by decide)) ?_
        refine ok_nmr (nI (k + 1)) rfl ?_
        rw [nI_clamp (by omega), nI_clamp (by omega), g1 k (Nat.le_refl k), nI_add]
        refine ih _ _ _ ⟨k + 1, by omega, rfl, by rw [pk_un (by omega)]; exact g0, fun j hj => ?_, fun j hj => ?_⟩ (by rw [nI_clamp (by omega), nI_clamp (by omega)]; omega)
        · by_cases q3 : j = k + 1
          · subst q3; rw [pk_us]; rfl
          · rw [pk_un q3]; exact g1 j (by omega)
        · by_cases q3 : j = k
          · subst q3; rw [pk_us]
          · rw [pk_un q3]; exact g2 j (by omega)
