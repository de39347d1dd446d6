/-! the Tutte polynomial: by counted defects, and set by set -/
def tt (i j a b : Nat) : Int := if i ≤ a ∧ j ≤ b then ps (a - i + b - j) * (ch a i * ch b j) else 0
theorem ofI (n : Nat) (h : n < 2 ^ 31) : (nI n).toInt64 = Int64.ofInt n := by
  apply Int64.toInt_inj.mp
  rw [i64, nI_toInt h, Int64.toInt_ofInt]
  rw [Int.bmod_def]
  have : (2 : Int) ^ 64 = 18446744073709551616 := by decide
  simp only [Int64.size]
  omega
theorem fi_ok {a : Nat → Int32} : ok (f_fillI 169 a 0) (fun r => ∀ k, k < 169 → r k = 0) := by
  unfold f_fillI
  refine ok_nmr (nI 169) rfl ?_
  refine lo2_F (fun v w => ∃ k : Nat, k ≤ 169 ∧ v = nI k ∧ ∀ j, j < k → w j = 0) (fun v _ => 169 - v.toNatClampNeg) ?_ ⟨0, by omega, nI_0.symm, fun j hj => absurd hj (by omega)⟩ (by omega)
  rintro kr v w ⟨k, hk, rfl, h1⟩ ih
  refine ok_if (fun q => ?_) (fun q => ?_)
  · have e : k = 169 := by
      have := (nI_leI (by omega) (by omega)).mp q
      omega
    subst e
    exact ok_some h1
  · have hlt : k < 169 := by
      rcases Nat.lt_or_ge k 169 with q1 | q1
      · exact q1
      · exact absurd ((nI_leI (by omega) (by omega)).mpr q1) q
    refine ok_in (vp_in_nI hlt (by decide)) ?_
    refine ok_nmr (nI (k + 1)) (nI_1 ..) ?_
    rw [nI_clamp (by omega)]
    refine ih _ _ ⟨k + 1, hlt, rfl, fun j hj => ?_⟩ (by rw [nI_clamp (by omega), nI_clamp (by omega)]; omega)
    by_cases q2 : j = k
    · rw [q2, pk_us]
    · rw [pk_un q2]; exact h1 j (by omega)
def dfb (R : Nat) (ρ : Nat → Nat) (a b S : Nat) : Bool := decide (R - ρ S = a) && decide (cn S - ρ S = b)
theorem ld_ok {rk df0 : Nat → Int32} {ρ : Nat → Nat} {N R : Nat} (hN : N ≤ 12) (hR : R ≤ 12) (hrk : ∀ T, T < 2 ^ N → rk T = nI (ρ T)) (hρ : RF N R ρ) : ok (f_S_learnDefects (nI N) (nI R) 4096 rk 169 df0) (fun r => ∀ a b, a < 13 → b < 13 → r (a * 13 + b) = nI (cnt (2 ^ N) (dfb R ρ a b))) := by
  have hM := p2_12 hN
  unfold f_S_learnDefects
  refine ok_b1 fi_ok ?_
  intro u1 hu1
  rw [nI_31 (by omega), nI_shl (by omega)]
  refine lo2_F (fun v w => ∃ s : Nat, s ≤ 2 ^ N ∧ v = nI s ∧ ∀ a b, a < 13 → b < 13 → w (a * 13 + b) = nI (cnt s (dfb R ρ a b))) (fun v _ => 2 ^ N - v.toNatClampNeg) ?_ ⟨0, Nat.zero_le _, nI_0.symm, fun a b ha hb => by rw [hu1 _ (by omega)]; rfl⟩ (by omega)
  rintro kr v w ⟨s, hs, rfl, h1⟩ ih
  refine ok_if (fun q => ?_) (fun q => ?_)
  · have e : s = 2 ^ N := by
      have := (nI_leI (by omega) (by omega)).mp q
      omega
    subst e
    exact ok_some h1
  · have hlt : s < 2 ^ N := by
      rcases Nat.lt_or_ge s (2 ^ N) with q1 | q1
      · exact q1
      · exact absurd ((nI_leI (by omega) (by omega)).mpr q1) q
    have r1 := hρ.1 s hlt
    have r2 := hρ.2.2.1 s hlt
    have r3 := cn_le s
    refine ok_in (vp_in_nI (by omega) (by decide)) ?_
    refine ok_nmr (nI (R - ρ s)) (by rw [nI_clamp (by omega), hrk s hlt, nI_subI r2]) ?_
    refine ok_b1 (bc_ok (by omega)) ?_
    rintro r8 rfl
    refine ok_in (vp_in_nI (by omega) (by decide)) ?_
    refine ok_nmr (nI (cn s - ρ s)) (by rw [nI_clamp (by omega), hrk s hlt, nI_subI r1]) ?_
    rw [show nI (R - ρ s) * 13 + nI (cn s - ρ s) = nI ((R - ρ s) * 13 + (cn s - ρ s)) by rw [show (13 : Int32) = nI 13 from rfl, pk_mul, nI_add]]
    refine ok_in (vp_in_nI (by omega) (by decide)) (ok_in (vp_in_nI (by omega) (by decide)) ?_)
    refine ok_nmr (nI (s + 1)) (nI_1 ..) ?_
    rw [nI_clamp (by omega)]
    refine ih _ _ ⟨s + 1, hlt, rfl, fun a b ha hb => ?_⟩ (by rw [nI_clamp (by omega), nI_clamp (by omega)]; omega)
    have hc : cnt (s + 1) (dfb R ρ a b) = cnt s (dfb R ρ a b) + (if dfb R ρ a b s = true then 1 else 0) := rfl
    rw [hc]
    by_cases q2 : R - ρ s = a ∧ cn s - ρ s = b
    · obtain ⟨rfl, rfl⟩ := q2
      rw [pk_us, h1 _ _ (by omega) (by omega), nI_1, if_pos (by unfold dfb; simp)]
    · rw [pk_un (by omega), h1 a b ha hb, if_neg (by unfold dfb; simp; omega)]
      rfl
theorem par_ok {i j a b : Nat} (hi : i ≤ a) (hj : j ≤ b) (ha : a ≤ 12) (hb : b ≤ 12) : ((((nI a - nI i) + nI b) - nI j) - (((nI a - nI i) + nI b) - nI j) / 2 * 2 = 0) ↔ (a - i + b - j) % 2 = 0 := by
  rw [nI_subI hi, nI_add, nI_subI (by omega), show (2 : Int32) = nI 2 from rfl, pk_rem (by omega) (by decide) (by decide), nI_eq0 (by omega)]
theorem sm_from {f : Nat → Int} {i n : Nat} (h : ∀ e, e < i → f e = 0) (hin : n ≤ i) : sm n f = 0 := sm_z (fun e he => h e (by omega))
theorem co_ok {df : Nat → Int32} {D : Nat → Nat → Nat} {N R i j : Nat} (hN : N ≤ 12) (hR : R ≤ N) (hi : i ≤ 12) (hj : j ≤ 12) (hD : ∀ a b, a < 13 → b < 13 → df (a * 13 + b) = nI (D a b) ∧ D a b ≤ 4096) : ok (f_S_coefficient (nI N) (nI R) 169 df (nI i) (nI j)) (fun r => r = Int64.ofInt (sm (R + 1) (fun a => sm (N - R + 1) (fun b => tt i j a b * D a b)))) := by
  unfold f_S_coefficient
  refine lo2_F (fun v x => ∃ a : Nat, i ≤ a ∧ a ≤ R + 1 + i ∧ v = nI a ∧ x = Int64.ofInt (sm a (fun a => sm (N - R + 1) (fun b => tt i j a b * D a b))) ∧ (R + 1 < a → a = i)) (fun v _ => R + 1 + i - v.toNatClampNeg) ?_ ⟨i, Nat.le_refl _, by omega, rfl, ?_, fun _ => rfl⟩ (by omega)
  · rintro kr v x ⟨a, ha1, ha2, rfl, rfl, ha3⟩ ih
    refine ok_if (fun q => ?_) (fun q => ?_)
    · have h1 := (nI_ltI (by omega) (by omega)).mp q
      refine ok_some ?_
      by_cases q2 : a = R + 1
      · rw [q2]
      · have e : a = i := ha3 (by omega)
        have z : ∀ n, n ≤ i → sm n (fun a => sm (N - R + 1) (fun b => tt i j a b * D a b)) = 0 := by
          intro n hn
          refine sm_z (fun e he => sm_z (fun b _ => ?_))
          unfold tt
          rw [if_neg (by omega)]; simp
        rw [z a (by omega), z (R + 1) (by omega)]
    · have h1 : ¬ R < a := fun h => q ((nI_ltI (by omega) (by omega)).mpr h)
      refine ok_jn (fun k94 => ok (k94 (Int64.ofInt (sm (a + 1) (fun a => sm (N - R + 1) (fun b => tt i j a b * D a b))))) (fun r => r = Int64.ofInt (sm (R + 1) (fun a => sm (N - R + 1) (fun b => tt i j a b * D a b))))) ?_ ?_
      · refine ok_nmr (nI (a + 1)) (nI_1 ..) ?_
        exact ih _ _ ⟨a + 1, by omega, by omega, rfl, rfl, fun h => absurd h (by omega)⟩ (by rw [nI_clamp (by omega), nI_clamp (by omega)]; omega)
      · intro k94 h94
        rw [nI_subI hR]
        have hsa : sm (a + 1) (fun a => sm (N - R + 1) (fun b => tt i j a b * D a b)) = sm a (fun a => sm (N - R + 1) (fun b => tt i j a b * D a b)) + sm (N - R + 1) (fun b => tt i j a b * D a b) := rfl
        rw [hsa] at h94
        generalize sm a (fun a => sm (N - R + 1) (fun b => tt i j a b * D a b)) = A at h94 ⊢
        refine lo2_F (fun v x => ∃ b : Nat, j ≤ b ∧ b ≤ N - R + 1 + j ∧ v = nI b ∧ x = Int64.ofInt (A + sm b (fun b => tt i j a b * D a b)) ∧ (N - R + 1 < b → b = j)) (fun v _ => N - R + 1 + j - v.toNatClampNeg) ?_ ⟨j, Nat.le_refl _, by omega, rfl, ?_, fun _ => rfl⟩ (by omega)
        · rintro ks v x ⟨b, hb1, hb2, rfl, rfl, hb3⟩ ih2
          refine ok_if (fun q2 => ?_) (fun q2 => ?_)
          · have h2 := (nI_ltI (by omega) (by omega)).mp q2
            by_cases q3 : b = N - R + 1
            · rw [q3]; exact h94
            · have e : b = j := hb3 (by omega)
              have z : ∀ n, n ≤ j → sm n (fun b => tt i j a b * D a b) = 0 := by
                intro n hn
                refine sm_z (fun e he => ?_)
                unfold tt
                rw [if_neg (by omega)]; simp
              rw [z b (by omega)]
              rw [z (N - R + 1) (by omega)] at h94
              exact h94
          · have h2 : ¬ N - R < b := fun h => q2 ((nI_ltI (by omega) (by omega)).mpr h)
            refine ok_b1 (ch_ok (by omega) ha1) ?_
            rintro r9 rfl
            refine ok_b1 (ch_ok (by omega) hb1) ?_
            rintro r11 rfl
            rw [show nI a * 13 + nI b = nI (a * 13 + b) by rw [show (13 : Int32) = nI 13 from rfl, pk_mul, nI_add]]
            refine ok_in (vp_in_nI (by omega) (by decide)) ?_
            obtain ⟨d1, d2⟩ := hD a b (by omega) (by omega)
            have chb : ∀ x y, x ≤ 12 → y ≤ x → ch x y < 2 ^ 31 := by
              intro x y hx hy
              have : ∀ x : Fin 13, ∀ y : Fin 13, ch x.val y.val < 2 ^ 31 := by decide
              exact this ⟨x, by omega⟩ ⟨y, by omega⟩
            refine ok_nmr (Int64.ofInt (((ch a i : Int) * ch b j) * D a b)) (by rw [nI_clamp (by omega), d1, ofI _ (chb a i (by omega) ha1), ofI _ (chb b j (by omega) hb1), ofI _ (by omega), ← Int64.ofInt_mul, ← Int64.ofInt_mul]) ?_
            refine ok_jn (fun k86 => ok (k86 (Int64.ofInt (tt i j a b * D a b))) (fun r => r = Int64.ofInt (sm (R + 1) (fun a => sm (N - R + 1) (fun b => tt i j a b * D a b))))) ?_ ?_
            · refine ok_nmr (Int64.ofInt (A + sm (b + 1) (fun b => tt i j a b * D a b))) (by rw [← Int64.ofInt_add]; congr 1; simp only [sm]; exact Int.add_assoc _ _ _) ?_
              refine ok_nmr (nI (b + 1)) (nI_1 ..) ?_
              exact ih2 _ _ ⟨b + 1, by omega, by omega, rfl, rfl, fun h => absurd h (by omega)⟩ (by rw [nI_clamp (by omega), nI_clamp (by omega)]; omega)
            · intro k86 h86
              have hp := par_ok ha1 hb1 (show a ≤ 12 by omega) (show b ≤ 12 by omega)
              have htt : tt i j a b = ps (a - i + b - j) * (ch a i * ch b j) := by unfold tt; rw [if_pos ⟨ha1, hb1⟩]
              rw [htt, ps_par] at h86
              refine ok_if (fun q3 => ?_) (fun q3 => ?_)
              · rw [if_pos (hp.mp q3), Int.one_mul] at h86; exact h86
              · rw [if_neg (fun h => q3 (hp.mpr h))] at h86
                rw [← Int64.ofInt_neg]
                rw [show -1 * ((ch a i : Int) * ch b j) * D a b = -((ch a i : Int) * ch b j * D a b) by grind] at h86
                exact h86
        · have z : sm j (fun b => tt i j a b * D a b) = 0 := sm_z (fun e he => by unfold tt; rw [if_neg (by omega)]; simp)
          rw [z, Int.add_zero]
  · have z : sm i (fun a => sm (N - R + 1) (fun b => tt i j a b * D a b)) = 0 := sm_z (fun e he => sm_z (fun b _ => by unfold tt; rw [if_neg (by omega)]; simp))
    rw [z]; rfl
/-- the two sums are one -/
theorem tt_sum {N R i j : Nat} {ρ : Nat → Nat} (hN : N ≤ 12) (hR : R ≤ N) (hρ : RF N R ρ) : sm (R + 1) (fun a => sm (N - R + 1) (fun b => tt i j a b * (cnt (2 ^ N) (dfb R ρ a b) : Nat))) = sm (2 ^ N) (fun S => tt i j (R - ρ S) (cn S - ρ S)) := by
  have e1 : ∀ a b, tt i j a b * (cnt (2 ^ N) (dfb R ρ a b) : Nat) = sm (2 ^ N) (fun S => if dfb R ρ a b S = true then tt i j a b else 0) := by
    intro a b
    rw [sm_cnt, Int.mul_comm]
  have e2 : sm (R + 1) (fun a => sm (N - R + 1) (fun b => tt i j a b * (cnt (2 ^ N) (dfb R ρ a b) : Nat))) = sm (R + 1) (fun a => sm (2 ^ N) (fun S => sm (N - R + 1) (fun b => if dfb R ρ a b S = true then tt i j a b else 0))) := by
    refine sm_congr (fun a _ => ?_)
    rw [sm_comm]
    exact sm_congr (fun b _ => e1 a b)
  rw [e2, sm_comm]
  refine sm_congr (fun S hS => ?_)
  have hlow := RF_low hN hρ (cp N S) (cp_lt hS)
  rw [cp_cp hS] at hlow
  have h1 := cn_cp hN hS
  have h2 := hρ.1 S hS
  have e3 : ∀ a, a < R + 1 → sm (N - R + 1) (fun b => if dfb R ρ a b S = true then tt i j a b else 0) = if a = R - ρ S then tt i j (R - ρ S) (cn S - ρ S) else 0 := by
    intro a _
    by_cases q : a = R - ρ S
    · rw [if_pos q]
      rw [sm_congr (g := fun b => if b = cn S - ρ S then tt i j (R - ρ S) (cn S - ρ S) else 0) (fun b _ => ?_), sm_one (by omega)]
      unfold dfb
      by_cases q2 : b = cn S - ρ S
      · rw [if_pos q2, if_pos (by simp [q, q2]), q, q2]
      · rw [if_neg q2, if_neg (by simp; intro _; omega)]
    · rw [if_neg q, sm_z]
      intro b _
      unfold dfb
      rw [if_neg (by simp; intro h; omega)]
  rw [sm_congr e3, sm_one (by omega)]
theorem ix13 (i j : Nat) : (13 : Int32) * nI i + nI j = nI (13 * i + j) := by rw [show (13 : Int32) = nI 13 from rfl, pk_mul, nI_add]
theorem ch_0 (n : Nat) : ch n 0 = 1 := by cases n <;> rfl
theorem ply_ok {rk szs rks els : Nat → Int32} {cf0 cc0 : Nat → Int64} {ρ : Nat → Nat} {N R t : Nat} (hN : N ≤ 12) (hR : R ≤ N) (ht : t < 4) (hrk : ∀ T, T < 2 ^ N → rk (4096 * t + T) = nI (ρ T)) (hsz : ∀ S, S < 4096 → szs S = nI (cn S)) (hrks : rks t = nI R) (hel : els t = nI N) (hρ : RF N R ρ) : ok (f_R_polynomial 16384 rk 4096 szs 4 rks 4 els 169 cf0 169 cc0 (nI t)) (fun r => ∀ i j, i < 13 → j < 13 → r.1 (13 * i + j) = Int64.ofInt (sm (2 ^ N) (fun S => tt i j (R - ρ S) (cn S - ρ S)))) := by
  have hM := p2_12 hN
  have hP := Nat.two_pow_pos N
  unfold f_R_polynomial
  refine ok_jn (fun k22 => ∀ w : Nat → Int64, (∀ q, q < 169 → w q = 0) → ok (k22 w) (fun r => ∀ i j, i < 13 → j < 13 → r.1 (13 * i + j) = Int64.ofInt (sm (2 ^ N) (fun S => tt i j (R - ρ S) (cn S - ρ S))))) ?_ ?_
  · intro cf hcf
    refine ok_jn (fun k106 => ∀ w : Nat → Int64, (∀ n k, n < 13 → k < 13 → w (13 * n + k) = Int64.ofInt (ch n k)) → ok (k106 w) (fun r => ∀ i j, i < 13 → j < 13 → r.1 (13 * i + j) = Int64.ofInt (sm (2 ^ N) (fun S => tt i j (R - ρ S) (cn S - ρ S))))) ?_ ?_
    · intro cc hcc
      refine lo2_F (fun v w => ∃ s : Nat, s ≤ 2 ^ N ∧ v = nI s ∧ ∀ i j, i < 13 → j < 13 → w (13 * i + j) = Int64.ofInt (sm s (fun S => tt i j (R - ρ S) (cn S - ρ S)))) (fun v _ => 2 ^ N - v.toNatClampNeg) ?_ ⟨0, Nat.zero_le _, nI_0.symm, fun i j hi hj => by rw [hcf _ (by omega)]; rfl⟩ (by omega)
      rintro kr v w ⟨s, hs, rfl, h1⟩ ih
      refine ok_b1 (wh_ok hN ht hel) ?_
      rintro r5 rfl
      refine ok_if (fun q => ?_) (fun q => ?_)
      · have := (nI_ltI (by omega) (by omega)).mp q
        have e : s = 2 ^ N := by omega
        subst e
        exact ok_some h1
      · have : ¬ 2 ^ N - 1 < s := fun h => q ((nI_ltI (by omega) (by omega)).mpr h)
        have hlt : s < 2 ^ N := by omega
        have r1 := hρ.1 s hlt
        have r2 := hρ.2.2.1 s hlt
        have r3 := cn_le s
        refine ok_in (vp_in_nI ht (by decide)) ?_
        refine ok_b1 (rr_ok hN ht hlt hrk) ?_
        rintro r9 rfl
        refine ok_nmr (nI (R - ρ s)) (by rw [nI_clamp (by omega), hrks, nI_subI r2]) ?_
        refine ok_in (vp_in_nI (by omega) (by decide)) ?_
        refine ok_b1 (rr_ok hN ht hlt hrk) ?_
        rintro r13 rfl
        refine ok_nmr (nI (cn s - ρ s)) (by rw [nI_clamp (by omega), hsz s (by omega), nI_subI r1]) ?_
        generalize ha : R - ρ s = a
        generalize hb : cn s - ρ s = b
        refine ok_jn (fun k244 => ∀ w' : Nat → Int64, (∀ i j, i < 13 → j < 13 → w' (13 * i + j) = Int64.ofInt (sm s (fun S => tt i j (R - ρ S) (cn S - ρ S)) + tt i j a b)) → ok (k244 w') (fun r => ∀ i j, i < 13 → j < 13 → r.1 (13 * i + j) = Int64.ofInt (sm (2 ^ N) (fun S => tt i j (R - ρ S) (cn S - ρ S))))) ?_ ?_
        · intro w' hw'
          refine ok_nmr (nI (s + 1)) (nI_1 ..) ?_
          refine ih _ _ ⟨s + 1, hlt, rfl, fun i j hi hj => ?_⟩ (by rw [nI_clamp (by omega), nI_clamp (by omega)]; omega)
          rw [hw' i j hi hj, ← ha, ← hb]; rfl
        · intro k244 h244
          refine lo2_F (fun v w' => ∃ i : Nat, i ≤ a + 1 ∧ v = nI i ∧ ∀ x y, x < 13 → y < 13 → w' (13 * x + y) = Int64.ofInt (sm s (fun S => tt x y (R - ρ S) (cn S - ρ S)) + if x < i then tt x y a b else 0)) (fun v _ => a + 1 - v.toNatClampNeg) ?_ ⟨0, Nat.zero_le _, nI_0.symm, fun x y hx hy => by rw [h1 x y hx hy, if_neg (by omega), Int.add_zero]⟩ (by omega)
          rintro ks v w' ⟨i, hi, rfl, g1⟩ ih2
          refine ok_if (fun q2 => ?_) (fun q2 => ?_)
          · have := (nI_ltI (by omega) (by omega)).mp q2
            refine h244 w' (fun x y hx hy => ?_)
            rw [g1 x y hx hy]
            by_cases q3 : x < i
            · rw [if_pos q3]
            · rw [if_neg q3]
              unfold tt
              rw [if_neg (by omega)]
          · have hia : ¬ a < i := fun h => q2 ((nI_ltI (by omega) (by omega)).mpr h)
            refine ok_jn (fun k238 => ∀ w2 : Nat → Int64, (∀ x y, x < 13 → y < 13 → w2 (13 * x + y) = Int64.ofInt (sm s (fun S => tt x y (R - ρ S) (cn S - ρ S)) + if x < i + 1 then tt x y a b else 0)) → ok (k238 w2) (fun r => ∀ i j, i < 13 → j < 13 → r.1 (13 * i + j) = Int64.ofInt (sm (2 ^ N) (fun S => tt i j (R - ρ S) (cn S - ρ S))))) ?_ ?_
            · intro w2 hw2
              refine ok_nmr (nI (i + 1)) (nI_1 ..) ?_
              exact ih2 _ _ ⟨i + 1, by omega, rfl, hw2⟩ (by rw [nI_clamp (by omega), nI_clamp (by omega)]; omega)
            · intro k238 h238
              refine lo2_F (fun v w2 => ∃ j : Nat, j ≤ b + 1 ∧ v = nI j ∧ ∀ x y, x < 13 → y < 13 → w2 (13 * x + y) = Int64.ofInt (sm s (fun S => tt x y (R - ρ S) (cn S - ρ S)) + if x < i ∨ (x = i ∧ y < j) then tt x y a b else 0)) (fun v _ => b + 1 - v.toNatClampNeg) ?_ ⟨0, Nat.zero_le _, nI_0.symm, fun x y hx hy => ?_⟩ (by omega)
              · rintro kt v w2 ⟨j, hj, rfl, e1⟩ ih3
                refine ok_if (fun q3 => ?_) (fun q3 => ?_)
                · have := (nI_ltI (by omega) (by omega)).mp q3
                  refine h238 w2 (fun x y hx hy => ?_)
                  rw [e1 x y hx hy]
                  by_cases q4 : x < i ∨ (x = i ∧ y < j)
                  · rw [if_pos q4, if_pos (by omega)]
                  · rw [if_neg q4]
                    by_cases q5 : x < i + 1
                    · rw [if_pos q5]
                      unfold tt
                      rw [if_neg (by omega)]
                    · rw [if_neg q5]
                · have hjb : ¬ b < j := fun h => q3 ((nI_ltI (by omega) (by omega)).mpr h)
                  rw [ix13, ix13, ix13]
                  refine ok_in (vp_in_nI (by omega) (by decide)) (ok_in (vp_in_nI (by omega) (by decide)) ?_)
                  refine ok_nmr (Int64.ofInt ((ch a i : Int) * ch b j)) (by rw [nI_clamp (by omega), nI_clamp (by omega), hcc a i (by omega) (by omega), hcc b j (by omega) (by omega), ← Int64.ofInt_mul]) ?_
                  refine ok_in (vp_in_nI (by omega) (by decide)) ?_
                  refine ok_jn (fun k230 => ok (k230 (Int64.ofInt (tt i j a b))) (fun r => ∀ i j, i < 13 → j < 13 → r.1 (13 * i + j) = Int64.ofInt (sm (2 ^ N) (fun S => tt i j (R - ρ S) (cn S - ρ S))))) ?_ ?_
                  · refine ok_in (vp_in_nI (by omega) (by decide)) ?_
                    refine ok_nmr (nI (j + 1)) (nI_1 ..) ?_
                    rw [nI_clamp (by omega)]
                    refine ih3 _ _ ⟨j + 1, by omega, rfl, fun x y hx hy => ?_⟩ (by rw [nI_clamp (by omega), nI_clamp (by omega)]; omega)
                    by_cases q4 : x = i ∧ y = j
                    · obtain ⟨rfl, rfl⟩ := q4
                      rw [uL_s, e1 x y hx hy, if_neg (by omega), if_pos (by omega), ← Int64.ofInt_add, Int.add_zero]
                    · rw [uL_n (by omega), e1 x y hx hy]
                      congr 2
                      by_cases q5 : x < i ∨ (x = i ∧ y < j)
                      · rw [if_pos q5, if_pos (by omega)]
                      · rw [if_neg q5, if_neg (by omega)]
                  · intro k230 h230
                    have hp := par_ok (show i ≤ a by omega) (show j ≤ b by omega) (show a ≤ 12 by omega) (show b ≤ 12 by omega)
                    have htt : tt i j a b = ps (a - i + b - j) * (ch a i * ch b j) := by unfold tt; rw [if_pos ⟨by omega, by omega⟩]
                    rw [htt, ps_par] at h230
                    refine ok_if (fun q4 => ?_) (fun q4 => ?_)
                    · rw [if_pos (hp.mp q4), Int.one_mul] at h230; exact h230
                    · rw [if_neg (fun h => q4 (hp.mpr h))] at h230
                      rw [← Int64.ofInt_neg]
                      rw [show -1 * ((ch a i : Int) * ch b j) = -((ch a i : Int) * ch b j) by omega] at h230
                      exact h230
              · rw [g1 x y hx hy]
                congr 2
                by_cases q5 : x < i
                · rw [if_pos q5, if_pos (Or.inl q5)]
                · rw [if_neg q5, if_neg (by omega)]
    · intro k106 h106
      refine lo2_F (fun v w => ∃ n : Nat, n ≤ 13 ∧ v = nI n ∧ ∀ x y, x < n → y < 13 → w (13 * x + y) = Int64.ofInt (ch x y)) (fun v _ => 13 - v.toNatClampNeg) ?_ ⟨0, by omega, nI_0.symm, fun x y hx => absurd hx (by omega)⟩ (by omega)
      rintro kr v w ⟨n, hn, rfl, h1⟩ ih
      refine ok_if (fun q => ?_) (fun q => ?_)
      · have e : n = 13 := by
          have := (nI_leI (a := 13) (by omega) (by omega)).mp q
          omega
        subst e
        exact h106 w (fun x y hx hy => h1 x y hx hy)
      · have hlt : n < 13 := by
          rcases Nat.lt_or_ge n 13 with q1 | q1
          · exact q1
          · exact absurd ((nI_leI (a := 13) (by omega) (by omega)).mpr q1) q
        refine ok_jn (fun k100 => ∀ w' : Nat → Int64, (∀ x y, x < n + 1 → y < 13 → w' (13 * x + y) = Int64.ofInt (ch x y)) → ok (k100 w') (fun r => ∀ i j, i < 13 → j < 13 → r.1 (13 * i + j) = Int64.ofInt (sm (2 ^ N) (fun S => tt i j (R - ρ S) (cn S - ρ S))))) ?_ ?_
        · intro w' hw'
          refine ok_nmr (nI (n + 1)) (nI_1 ..) ?_
          exact ih _ _ ⟨n + 1, hlt, rfl, hw'⟩ (by rw [nI_clamp (by omega), nI_clamp (by omega)]; omega)
        · intro k100 h100
          refine lo2_F (fun v w' => ∃ k : Nat, k ≤ 13 ∧ v = nI k ∧ ∀ x y, y < 13 → (x < n ∨ (x = n ∧ y < k)) → w' (13 * x + y) = Int64.ofInt (ch x y)) (fun v _ => 13 - v.toNatClampNeg) ?_ ⟨0, by omega, nI_0.symm, fun x y hy hx => h1 x y (by omega) hy⟩ (by omega)
          rintro ks v w' ⟨k, hk, rfl, g1⟩ ih2
          refine ok_if (fun q2 => ?_) (fun q2 => ?_)
          · have e : k = 13 := by
              have := (nI_leI (a := 13) (by omega) (by omega)).mp q2
              omega
            subst e
            exact h100 w' (fun x y hx hy => g1 x y hy (by omega))
          · have hk2 : k < 13 := by
              rcases Nat.lt_or_ge k 13 with q1 | q1
              · exact q1
              · exact absurd ((nI_leI (a := 13) (by omega) (by omega)).mpr q1) q2
            refine ok_jn (fun k93 => ok (k93 (Int64.ofInt (ch n k))) (fun r => ∀ i j, i < 13 → j < 13 → r.1 (13 * i + j) = Int64.ofInt (sm (2 ^ N) (fun S => tt i j (R - ρ S) (cn S - ρ S))))) ?_ ?_
            · rw [ix13]
              refine ok_in (vp_in_nI (by omega) (by decide)) ?_
              refine ok_nmr (nI (k + 1)) (nI_1 ..) ?_
              rw [nI_clamp (by omega)]
              refine ih2 _ _ ⟨k + 1, hk2, rfl, fun x y hy hx => ?_⟩ (by rw [nI_clamp (by omega), nI_clamp (by omega)]; omega)
              by_cases q4 : x = n ∧ y = k
              · obtain ⟨rfl, rfl⟩ := q4; rw [uL_s]
              · rw [uL_n (by omega)]; exact g1 x y hy (by omega)
            · intro k93 h93
              refine ok_if (fun q3 => ?_) (fun q3 => ?_)
              · have k0 := (nI_eq0 (by omega)).mp q3
                subst k0
                rw [ch_0] at h93
                exact h93
              · have k0 : k ≠ 0 := fun h => q3 ((nI_eq0 (by omega)).mpr h)
                obtain ⟨k', rfl⟩ : ∃ k', k = k' + 1 := ⟨k - 1, by omega⟩
                refine ok_if (fun q4 => ?_) (fun q4 => ?_)
                · have n0 := (nI_eq0 (by omega)).mp q4
                  subst n0
                  exact h93
                · have n0 : n ≠ 0 := fun h => q4 ((nI_eq0 (by omega)).mpr h)
                  obtain ⟨n', rfl⟩ : ∃ n', n = n' + 1 := ⟨n - 1, by omega⟩
                  rw [nI_sub1 (by omega), show n' + 1 - 1 = n' by omega, ix13, nI_sub1 (by omega), show 13 * n' + (k' + 1) - 1 = 13 * n' + k' by omega]
                  refine ok_in (vp_in_nI (by omega) (by decide)) (ok_in (vp_in_nI (by omega) (by decide)) ?_)
                  rw [nI_clamp (by omega), nI_clamp (by omega), g1 n' (k' + 1) (by omega) (by omega), g1 n' k' (by omega) (by omega), ← Int64.ofInt_add]
                  have e : ((ch n' (k' + 1) : Int) + ch n' k') = (ch (n' + 1) (k' + 1) : Nat) := by
                    show _ = ((ch n' k' + ch n' (k' + 1) : Nat) : Int)
                    push_cast; omega
                  rw [e]; exact h93
  · intro k22 h22
    refine lo2_F (fun v w => ∃ k : Nat, k ≤ 169 ∧ v = nI k ∧ ∀ j, j < k → w j = 0) (fun v _ => 169 - v.toNatClampNeg) ?_ ⟨0, by omega, nI_0.symm, fun j hj => absurd hj (by omega)⟩ (by omega)
    rintro kr v w ⟨k, hk, rfl, h1⟩ ih
    refine ok_if (fun q => ?_) (fun q => ?_)
    · have e : k = 169 := by
        have := (nI_leI (a := 169) (by omega) (by omega)).mp q
        omega
      subst e
      exact h22 w h1
    · have hlt : k < 169 := by
        rcases Nat.lt_or_ge k 169 with q1 | q1
        · exact q1
        · exact absurd ((nI_leI (a := 169) (by omega) (by omega)).mpr q1) q
      refine ok_in (vp_in_nI hlt (by decide)) ?_
      refine ok_nmr (nI (k + 1)) (nI_1 ..) ?_
      rw [nI_clamp (by omega)]
      refine ih _ _ ⟨k + 1, hlt, rfl, fun j hj => ?_⟩ (by rw [nI_clamp (by omega), nI_clamp (by omega)]; omega)
      by_cases q2 : j = k
      · rw [q2, uL_s]
      · rw [uL_n q2]; exact h1 j (by omega)
