/-! the class takes the rows of a table -/
theorem wl_out {N p : Nat} (hp : N ≤ p) {l : List (Nat → Int)} : ∀ S, S.testBit p = true → wl N l S = 0 := by
  induction l with
  | nil =>
    intro S hS
    simp only [wl, vac]
    rw [if_neg]
    intro e
    rw [e, Nat.zero_testBit] at hS; cases hS
  | cons a l ih =>
    intro S hS
    simp only [wl]
    unfold wd
    refine sm_z (fun e he => ?_)
    by_cases q : S.testBit e = true
    · rw [if_pos q, ih (tg S e) (by rw [tg_ne (by omega)]; exact hS)]; simp
    · rw [if_neg q]
theorem wl_all {m : Int} {N : Nat} (hN : N ≤ 12) {l : List (Nat → Int)} (h : ∀ S, S < 2 ^ N → cn S = l.length → m ∣ wl N l S) : ∀ S, m ∣ wl N l S := by
  intro S
  by_cases hS : S < 2 ^ N
  · by_cases hc : cn S = l.length
    · exact h S hS hc
    · rw [wl_deg hS (by rw [cn_N hS hN]; exact hc)]; exact Int.dvd_zero _
  · obtain ⟨e, e1, e2⟩ := Nat.exists_ge_and_testBit_of_ge_two_pow (Nat.le_of_not_lt hS)
    rw [wl_out e1 S e2]; exact Int.dvd_zero _
theorem fbd_mono {k : Nat} (h : k ≤ 11) : fbd 999 k ≤ fbd 999 11 := by
  have : ∀ k : Fin 12, fbd 999 k.val ≤ fbd 999 11 := by decide
  exact this ⟨k, by omega⟩
theorem cn_0 {T : Nat} (hT : T < 4096) (h : cn T = 0) : T = 0 := by
  apply Classical.byContradiction
  intro hne
  obtain ⟨e, he⟩ := Nat.exists_testBit_of_ne_zero hne
  have h12 : e < 12 := lt_bit (N := 12) hT he
  have := cnt_tg h12 T
  rw [if_pos he, if_pos he] at this
  unfold cn at h
  omega
/-- what takeRows leaves -/
def CT (m N rows k : Nat) (A : Nat → Nat → Int) (rs : List (Nat → Int)) : Prop := rs.length = k ∧ k ≤ N ∧ (∀ a ∈ rs, ∃ r, r < rows ∧ a = A r) ∧ (∀ r, r < rows → ∀ S, (m : Int) ∣ wd N (A r) (wl N rs) S) ∧ ∃ S, S < 2 ^ N ∧ cn S = k ∧ ¬ (m : Int) ∣ wl N rs S
theorem tk_okQ {Q : (Int32 × (Nat → Int64) × (Nat → Int64) × (Nat → Int64)) → Prop} {lo mi hi : Nat → Int64} {nb sets starts : Nat → Int32} {os st : Nat → Nat} {m N rows : Nat} (hm : FdP m) (hN : N ≤ 12) (hr : rows ≤ 12) (hO : OC N sets starts os st) (hnb : ∀ r f, r < rows → f < N → -999 ≤ (nb (r * 12 + f)).toInt ∧ (nb (r * 12 + f)).toInt ≤ 999)
    (hQ : ∀ (k : Nat) (lo' mi' hi' : Nat → Int64) (rs : List (Nat → Int)), CT m N rows k (fun r f => (nb (r * 12 + f)).toInt) rs → CM m N k lo' mi' hi' (wl N rs) → Q (nI k, lo', mi', hi')) :
    ok (f_S_takeRows (nI N) (nI m) (nI rows) (nI N) 144 nb 4096 sets 14 starts 4096 lo 4096 mi 4096 hi) Q := by
  have hM := p2_12 hN
  have h1m : ¬ (m : Int) ∣ 1 := by
    rcases hm with q | q
    · subst q; intro hd; have := z_dvd.mp hd; cases this
    · obtain ⟨p0, p1⟩ := pr_le m q
      intro hd
      have := Int.le_of_dvd (by decide) hd
      omega
  unfold f_S_takeRows
  refine ok_b3 (Q1 := fun r => r = (vp_updL lo 0 1, vp_updL mi 0 0, vp_updL hi 0 0)) ⟨_, rfl, rfl⟩ ?_
  intro u1 u2 u3 hu
  have hu1 := (Prod.mk.inj hu).1
  have hu2 := (Prod.mk.inj (Prod.mk.inj hu).2).1
  have hu3 := (Prod.mk.inj (Prod.mk.inj hu).2).2
  have hC0 : CM m N 0 u1 u2 u3 (wl N []) := by
    intro T hT hc
    have hT0 := cn_0 (by omega) hc
    subst hT0
    have h1 : (1 : Int64).toInt = 1 := rfl
    have h0 : (0 : Int64).toInt = 0 := rfl
    unfold Dg mval
    rw [hu1, hu2, hu3, uL_s, uL_s, uL_s, h1, h0]
    refine ⟨by omega, fun _ => rfl, fun m0 => ⟨rfl, rfl, ?_, ?_⟩⟩
    · rcases hm with q | q
      · exact absurd q m0
      · have := (pr_le m q).1; omega
    · show (m : Int) ∣ 1 - 1
      exact Int.dvd_zero _
  clear hu hu1 hu2 hu3
  refine lo5_F (fun v x lo' mi' hi' => ∃ (i k : Nat) (rs : List (Nat → Int)), i ≤ rows ∧ k ≤ N ∧ v = nI i ∧ x = nI k ∧ rs.length = k ∧ (∀ a ∈ rs, ∃ r, r < rows ∧ a = (fun f => (nb (r * 12 + f)).toInt)) ∧ (∀ r, r < i → ∀ S, (m : Int) ∣ wd N (fun f => (nb (r * 12 + f)).toInt) (wl N rs) S) ∧ (∃ S, S < 2 ^ N ∧ cn S = k ∧ ¬ (m : Int) ∣ wl N rs S) ∧ CM m N k lo' mi' hi' (wl N rs)) (fun v _ _ _ _ => rows - v.toNatClampNeg) ?_ ⟨0, 0, [], Nat.zero_le _, Nat.zero_le _, nI_0.symm, nI_0.symm, rfl, fun a ha => absurd ha (by simp), fun r hr => absurd hr (by omega), ⟨0, Nat.two_pow_pos N, by decide, by simpa [wl, vac] using h1m⟩, hC0⟩ (by omega)
  rintro kr v x lo' mi' hi' ⟨i, k, rs, hi1, hk1, rfl, rfl, g1, g2, g3, g4, g5⟩ ih
  refine ok_if (fun q => ?_) (fun q => ?_)
  · have e : i = rows := by
      have := (nI_leI (by omega) (by omega)).mp q
      omega
    subst e
    exact ok_some (hQ k _ _ _ rs ⟨g1, hk1, g2, g3, g4⟩ g5)
  · have hlt : i < rows := by
      rcases Nat.lt_or_ge i rows with q1 | q1
      · exact q1
      · exact absurd ((nI_leI (by omega) (by omega)).mpr q1) q
    refine ok_if (fun q2 => ?_) (fun q2 => ?_)
    · have e : k = N := by
        have := (nI_leI (by omega) (by omega)).mp q2
        omega
      subst e
      refine ok_some (hQ k _ _ _ rs ⟨g1, hk1, g2, fun r hr S => ?_, g4⟩ g5)
      have := wl_all (m := (m : Int)) hN (l := (fun f => (nb (r * 12 + f)).toInt) :: rs) (fun S hS hc => by
        have h1 := cnt_bd (f := S.testBit) (N := k)
        rw [cn_N hS hN] at h1
        simp only [List.length_cons] at hc
        omega) S
      exact this
    · have hkN : k < N := by
        rcases Nat.lt_or_ge k N with q1 | q1
        · exact q1
        · exact absurd ((nI_leI (by omega) (by omega)).mpr q1) q2
      have hrb : ∀ a ∈ rs, ∀ e, e < N → (a e).natAbs ≤ 999 := by
        intro a ha e he
        obtain ⟨r, r1, rfl⟩ := g2 a ha
        have := hnb r e r1 he
        show ((nb (r * 12 + e)).toInt).natAbs ≤ 999
        omega
      refine ok_b4 (tr_okQ (Q := fun r => CM m N k r.2.1 r.2.2.1 r.2.2.2 (wl N rs) ∧ CM m N (k + 1) r.2.1 r.2.2.1 r.2.2.2 (wd N (fun f => (nb (i * 12 + f)).toInt) (wl N rs)) ∧ (r.1 = 1 ∧ (∃ S, S < 2 ^ N ∧ cn S = k + 1 ∧ ¬ (m : Int) ∣ wd N (fun f => (nb (i * 12 + f)).toInt) (wl N rs) S) ∨ r.1 = 0 ∧ ∀ S, S < 2 ^ N → cn S = k + 1 → (m : Int) ∣ wd N (fun f => (nb (i * 12 + f)).toInt) (wl N rs) S)) hm hN (by omega) hkN hO (fun f hf => hnb i f hlt hf) g5 (fun T hT => Nat.le_trans (by have := wl_fbd hrb hT; rw [g1] at this; exact this) (fbd_mono (by omega))) (fun r lo' mi' hi' a b c => ⟨a, b, c⟩)) ?_
      rintro r12 u13 u14 u15 ⟨c1, c2, c3⟩
      dsimp only at c1 c2 c3
      refine ok_jn (fun k46 => ∀ (k' : Nat) (rs' : List (Nat → Int)), k' ≤ N → rs'.length = k' → (∀ a ∈ rs', ∃ r, r < rows ∧ a = (fun f => (nb (r * 12 + f)).toInt)) → (∀ r, r < i + 1 → ∀ S, (m : Int) ∣ wd N (fun f => (nb (r * 12 + f)).toInt) (wl N rs') S) → (∃ S, S < 2 ^ N ∧ cn S = k' ∧ ¬ (m : Int) ∣ wl N rs' S) → CM m N k' u13 u14 u15 (wl N rs') → ok (k46 (nI k')) Q) ?_ ?_
      · intro k' rs' d1 d2 d3 d4 d5 d6
        refine ok_nmr (nI (i + 1)) (nI_1 ..) ?_
        exact ih _ _ _ _ _ ⟨i + 1, k', rs', hlt, d1, rfl, rfl, d2, d3, d4, d5, d6⟩ (by rw [nI_clamp (by omega), nI_clamp (by omega)]; omega)
      · intro k46 h46
        rcases c3 with ⟨rfl, c3⟩ | ⟨rfl, c3⟩
        · refine ok_if (fun q3 => absurd q3 (by decide)) (fun _ => ?_)
          refine ok_nmr (nI (k + 1)) (nI_1 ..) ?_
          refine h46 (k + 1) ((fun f => (nb (i * 12 + f)).toInt) :: rs) hkN (by simp [g1]) (fun a ha => ?_) (fun r hr S => ?_) c3 c2
          · rcases List.mem_cons.mp ha with e | e
            · exact ⟨i, hlt, e⟩
            · exact g2 a e
          · show (m : Int) ∣ wd N _ (wd N _ (wl N rs)) S
            by_cases q4 : r = i
            · subst q4; rw [wd_self]; exact Int.dvd_zero _
            · rw [wd_wd]; exact Int.dvd_neg.mpr (wd_zero (g3 r (by omega)) S)
        · refine ok_if (fun _ => ?_) (fun q3 => absurd rfl q3)
          refine h46 k rs hk1 g1 g2 (fun r hr S => ?_) g4 c1
          by_cases q4 : r = i
          · subst q4
            exact wl_all (m := (m : Int)) hN (l := (fun f => (nb (r * 12 + f)).toInt) :: rs) (fun S hS hc => c3 S hS (by rw [hc]; simp [g1])) S
          · exact g3 r (by omega) S
/-- the class's rank and minors against the reduced rows -/
theorem bridge {m N rows R k : Nat} {A Ac : Nat → Nat → Int} {pv : Nat → Nat} {E : Nat → Nat → Int} {rs : List (Nat → Int)} (hm : FdP m) (hN : N ≤ 12) (hR : RT m N rows A R pv E) (hC : CT m N rows k Ac rs) (hA : ∀ i j, i < rows → j < N → (m : Int) ∣ A i j - Ac i j) : k = R ∧ (∀ S, S < 2 ^ N → cn S = R → (m : Int) ∣ wl N (ol E R) (msk N (inP R pv)) * wl N rs S - wl N rs (msk N (inP R pv)) * wl N (ol E R) S) ∧ ¬ (m : Int) ∣ wl N rs (msk N (inP R pv)) := by
  obtain ⟨pp1, pp2, pp3⟩ := RT_P hm hN hR
  obtain ⟨r1, r2, r3, r4, r5, r6⟩ := hR
  obtain ⟨c1, c2, c3, c4, S0, c5, c6, c7⟩ := hC
  have hinj := inc_inj r3
  have z4 : ∀ i j, i < R → j < R → i ≠ j → (m : Int) ∣ E i (pv j) := fun i j hi hj hij => by rw [r4 i j hi hj hij]; exact Int.dvd_zero _
  have kC : Kill m N R E (wl N rs) := (r6 _).mpr ((kill_cg hA).mpr (fun i hi S => c4 i hi S))
  have kE0 : ∀ r, r ≤ R → ∀ i, i < r → ∀ S, wd N (E i) (wl N (ol E r)) S = 0 := by
    intro r
    induction r with
    | zero => intro _ i hi; omega
    | succ r ih =>
      intro hr i hi S
      show wd N (E i) (wd N (E r) (wl N (ol E r))) S = 0
      by_cases q : i = r
      · subst q; exact wd_self S
      · rw [wd_wd, wd_z (ih (by omega) i (by omega))]; rfl
  have kE : Kill m N R E (wl N (ol E R)) := fun i hi S => by rw [kE0 R (Nat.le_refl R) i hi S]; exact Int.dvd_zero _
  have kA := (r6 _).mp kE
  have kAc : Kill m N rows Ac (wl N (ol E R)) := (kill_cg hA).mp kA
  have hle : R ≤ k := by
    rcases Nat.lt_or_ge k R with q | q
    · exact absurd (kill_low hm r2 hinj z4 r5 kC (oc N R pv S0) S0 (by rw [cn_N c5 hN]; omega) (Nat.le_refl _)) c7
    · exact q
  have hge : k ≤ R := by
    rcases Nat.lt_or_ge R k with q | q
    · exact absurd (wl_high hm r2 hinj pp3 (rs := rs) (fun a ha S => by
        obtain ⟨r, h1, rfl⟩ := c3 a ha
        exact kAc r h1 S) (oc N R pv S0) S0 (by rw [cn_N c5 hN]; omega) (Nat.le_refl _)) c7
    · exact q
  have hkR : k = R := by omega
  have hprop : ∀ S, S < 2 ^ N → cn S = R → (m : Int) ∣ wl N (ol E R) (msk N (inP R pv)) * wl N rs S - wl N rs (msk N (inP R pv)) * wl N (ol E R) S := fun S hS hc => kill_prop hm r2 hinj z4 r5 kE kC (oc N R pv S) S hS (by rw [cn_N hS hN]; exact hc) (Nat.le_refl _)
  refine ⟨hkR, hprop, fun hd => ?_⟩
  have h1 := hprop S0 c5 (by omega)
  have h2 : (m : Int) ∣ wl N (ol E R) (msk N (inP R pv)) * wl N rs S0 := by
    have := Int.dvd_add h1 (Int.dvd_mul_of_dvd_left (c := wl N (ol E R) S0) hd)
    rwa [show ∀ x y : Int, x - y + y = x by intros; omega] at this
  exact c7 (fd_canc hm pp3 h2)
