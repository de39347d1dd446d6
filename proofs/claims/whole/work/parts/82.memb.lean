/-! members in order: the class's list and the reference's search -/
def skf (M : Nat) (F : Nat → Nat → Bool) : Nat → Nat
  | 0 => 0
  | k + 1 => skf M F k + cnt M (F k)
theorem skf_mono {M : Nat} {F : Nat → Nat → Bool} {a b : Nat} (h : a ≤ b) : skf M F a ≤ skf M F b := by
  induction h with
  | refl => exact Nat.le_refl _
  | step _ ih => exact Nat.le_trans ih (Nat.le_add_right _ _)
theorem cnt_lt {M a : Nat} {f : Nat → Bool} (ha : a < M) (hf : f a = true) : cnt a f < cnt M f := by
  induction M with
  | zero => omega
  | succ M ih =>
    by_cases q : a = M
    · subst q; simp only [cnt]; rw [if_pos hf]; omega
    · have := ih (by omega)
      simp only [cnt]; omega
/-- the i-th of those that F has, along os -/
def Ith (M : Nat) (F : Nat → Bool) (os : Nat → Nat) (i r : Int32) : Prop := (∃ a, a < M ∧ F a = true ∧ i = nI (cnt a F) ∧ r = nI (os a)) ∨ (r = -1 ∧ ∀ a, a < M → F a = true → i ≠ nI (cnt a F))
theorem lm_ok {rk mem0 st0 sets : Nat → Int32} {ρ os : Nat → Nat} {N R : Nat} (hN : N ≤ 12) (hR : R ≤ 12) (hrk : ∀ T, T < 2 ^ N → rk T = nI (ρ T) ∧ ρ T ≤ 12) (hos : ∀ a, a < 2 ^ N → sets a = nI (os a) ∧ os a < 2 ^ N) (hsk : skf (2 ^ N) (fun k a => Kb N R ρ k (os a)) 4 ≤ 6868) : ok (f_S_learnMembers (nI N) (nI R) 4096 rk 6868 mem0 5 st0 4096 sets) (fun r => (∀ k, k ≤ 4 → r.2 k = nI (skf (2 ^ N) (fun k a => Kb N R ρ k (os a)) k)) ∧ ∀ k a, k < 4 → a < 2 ^ N → Kb N R ρ k (os a) = true → r.1 (skf (2 ^ N) (fun k a => Kb N R ρ k (os a)) k + cnt a (fun b => Kb N R ρ k (os b))) = nI (os a)) := by
  have hM := p2_12 hN
  generalize hF : (fun (k a : Nat) => Kb N R ρ k (os a)) = F at hsk ⊢
  have hFa : ∀ k a, Kb N R ρ k (os a) = F k a := fun k a => by rw [← hF]
  unfold f_S_learnMembers
  refine lo4_F (fun v x mem st => ∃ k : Nat, k ≤ 4 ∧ v = nI k ∧ x = nI (skf (2 ^ N) F k) ∧ (∀ j, j < k → st j = nI (skf (2 ^ N) F j)) ∧ ∀ j a, j < k → a < 2 ^ N → F j a = true → mem (skf (2 ^ N) F j + cnt a (F j)) = nI (os a)) (fun v _ _ _ => 4 - v.toNatClampNeg) ?_ ⟨0, by omega, nI_0.symm, rfl, fun j hj => absurd hj (by omega), fun j a hj => absurd hj (by omega)⟩ (by omega)
  rintro kr v x mem st ⟨k, hk, rfl, rfl, h1, h2⟩ ih
  refine ok_if (fun q => ?_) (fun q => ?_)
  · have e : k = 4 := by
      have := (nI_leI (a := 4) (by omega) (by omega)).mp q
      omega
    subst e
    refine ok_in (vp_in_nI (n := 4) (by decide) (by decide)) ?_
    refine ok_some ⟨fun j hj => ?_, fun j a hj ha hf => ?_⟩
    · by_cases q2 : j = 4
      · subst q2
        show upd st 4 _ 4 = _
        exact pk_us
      · show upd st 4 _ j = _
        rw [pk_un q2]; exact h1 j (by omega)
    · have h5 := h2 j a hj ha (by rw [← hFa]; exact hf)
      have h6 : (fun b => Kb N R ρ j (os b)) = F j := by funext b; exact hFa j b
      rw [h6]; exact h5
  · have hlt : k < 4 := by
      rcases Nat.lt_or_ge k 4 with q1 | q1
      · exact q1
      · exact absurd ((nI_leI (a := 4) (by omega) (by omega)).mpr q1) q
    have hb1 := skf_mono (M := 2 ^ N) (F := F) (show k + 1 ≤ 4 by omega)
    have hb2 : skf (2 ^ N) F (k + 1) = skf (2 ^ N) F k + cnt (2 ^ N) (F k) := rfl
    refine ok_in (vp_in_nI (by omega) (by decide)) ?_
    refine ok_jn (fun k66 => ∀ mem' : Nat → Int32, (∀ j a, j < k + 1 → a < 2 ^ N → F j a = true → mem' (skf (2 ^ N) F j + cnt a (F j)) = nI (os a)) → ok (k66 (nI (skf (2 ^ N) F (k + 1))) mem') (fun r => (∀ k, k ≤ 4 → r.2 k = nI (skf (2 ^ N) F k)) ∧ ∀ k a, k < 4 → a < 2 ^ N → Kb N R ρ k (os a) = true → r.1 (skf (2 ^ N) F k + cnt a (fun b => Kb N R ρ k (os b))) = nI (os a))) ?_ ?_
    · intro mem' hm'
      refine ok_nmr (nI (k + 1)) (nI_1 ..) ?_
      rw [nI_clamp (by omega)]
      refine ih _ _ _ _ ⟨k + 1, hlt, rfl, rfl, fun j hj => ?_, hm'⟩ (by rw [nI_clamp (by omega), nI_clamp (by omega)]; omega)
      by_cases q2 : j = k
      · subst q2; exact pk_us
      · rw [pk_un q2]; exact h1 j (by omega)
    · intro k66 h66
      rw [nI_31 (by omega), nI_shl (by omega)]
      refine lo3_F (fun v x mem' => ∃ a : Nat, a ≤ 2 ^ N ∧ v = nI a ∧ x = nI (skf (2 ^ N) F k + cnt a (F k)) ∧ (∀ j b, j < k → b < 2 ^ N → F j b = true → mem' (skf (2 ^ N) F j + cnt b (F j)) = nI (os b)) ∧ ∀ b, b < a → F k b = true → mem' (skf (2 ^ N) F k + cnt b (F k)) = nI (os b)) (fun v _ _ => 2 ^ N - v.toNatClampNeg) ?_ ⟨0, Nat.zero_le _, nI_0.symm, rfl, h2, fun b hb => absurd hb (by omega)⟩ (by omega)
      rintro ks v x mem' ⟨a, ha, rfl, rfl, g1, g2⟩ ih2
      refine ok_if (fun q2 => ?_) (fun q2 => ?_)
      · have e : a = 2 ^ N := by
          have := (nI_leI (by omega) (by omega)).mp q2
          omega
        subst e
        refine h66 mem' (fun j b hj hb hf => ?_)
        by_cases q3 : j = k
        · subst q3; exact g2 b hb hf
        · exact g1 j b (by omega) hb hf
      · have ha2 : a < 2 ^ N := by
          rcases Nat.lt_or_ge a (2 ^ N) with q1 | q1
          · exact q1
          · exact absurd ((nI_leI (by omega) (by omega)).mpr q1) q2
        obtain ⟨s1, s2⟩ := hos a ha2
        refine ok_in (vp_in_nI (by omega) (by decide)) ?_
        refine ok_nmr (nI (os a)) (by rw [nI_clamp (by omega), s1]) ?_
        refine ok_b1 (sok_ok hN hR s2 hlt hrk) ?_
        rintro r17 rfl
        rw [hFa]
        have hc1 : cnt (a + 1) (F k) = cnt a (F k) + (if F k a = true then 1 else 0) := rfl
        refine ok_jn (fun k60 => ∀ mem2 : Nat → Int32, (∀ j b, j < k → b < 2 ^ N → F j b = true → mem2 (skf (2 ^ N) F j + cnt b (F j)) = nI (os b)) → (∀ b, b < a + 1 → F k b = true → mem2 (skf (2 ^ N) F k + cnt b (F k)) = nI (os b)) → ok (k60 (nI (skf (2 ^ N) F k + cnt (a + 1) (F k))) mem2) (fun r => (∀ k, k ≤ 4 → r.2 k = nI (skf (2 ^ N) F k)) ∧ ∀ k a, k < 4 → a < 2 ^ N → Kb N R ρ k (os a) = true → r.1 (skf (2 ^ N) F k + cnt a (fun b => Kb N R ρ k (os b))) = nI (os a))) ?_ ?_
        · intro mem2 m1 m2
          refine ok_nmr (nI (a + 1)) (nI_1 ..) ?_
          exact ih2 _ _ _ ⟨a + 1, ha2, rfl, rfl, m1, m2⟩ (by rw [nI_clamp (by omega), nI_clamp (by omega)]; omega)
        · intro k60 h60
          cases hf : F k a with
          | false =>
            refine ok_if (fun _ => ?_) (fun q3 => absurd rfl q3)
            rw [hf] at hc1
            rw [hc1] at h60
            refine h60 mem' g1 (fun b hb hfb => ?_)
            by_cases q3 : b = a
            · rw [q3, hf] at hfb; cases hfb
            · exact g2 b (by omega) hfb
          | true =>
            refine ok_if (fun q3 => absurd q3 (by decide)) (fun _ => ?_)
            have hl := cnt_lt ha2 hf
            refine ok_in (vp_in_nI (by omega) (by decide)) ?_
            rw [hf] at hc1
            refine ok_nmr (nI (skf (2 ^ N) F k + cnt (a + 1) (F k))) (by rw [nI_1, hc1]; rfl) ?_
            rw [nI_clamp (by omega)]
            refine h60 _ (fun j b hj hb hfb => ?_) (fun b hb hfb => ?_)
            · have l1 := cnt_lt hb hfb
              have l2 := skf_mono (M := 2 ^ N) (F := F) (show j + 1 ≤ k by omega)
              have l3 : skf (2 ^ N) F (j + 1) = skf (2 ^ N) F j + cnt (2 ^ N) (F j) := rfl
              rw [pk_un (by omega)]; exact g1 j b hj hb hfb
            · by_cases q3 : b = a
              · subst q3; rw [pk_us]
              · have l1 := cnt_lt (show b < a by omega) hfb
                rw [pk_un (by omega)]; exact g2 b (by omega) hfb
theorem chm_ok {st : Nat → Int32} {M k : Nat} {F : Nat → Nat → Bool} (hk : k < 4) (hst : ∀ k, k ≤ 4 → st k = nI (skf M F k)) : ok (f_S_howMany 5 st (nI k)) (fun r => r = nI (cnt M (F k))) := by
  unfold f_S_howMany
  rw [nI_1]
  refine ok_in (vp_in_nI (by omega) (by decide)) (ok_in (vp_in_nI (by omega) (by decide)) ?_)
  rw [nI_clamp (by omega), nI_clamp (by omega), hst k (by omega), hst (k + 1) (by omega)]
  refine ok_some ?_
  have : skf M F (k + 1) = skf M F k + cnt M (F k) := rfl
  rw [nI_subI (by omega), this]
  congr 1
  omega
theorem cma_ok {st mem : Nat → Int32} {os : Nat → Nat} {M k : Nat} {F : Nat → Nat → Bool} {i : Int32} (hk : k < 4) (hsk : skf M F 4 ≤ 6868) (hst : ∀ k, k ≤ 4 → st k = nI (skf M F k)) (hmem : ∀ a, a < M → F k a = true → mem (skf M F k + cnt a (F k)) = nI (os a)) : ok (f_S_memberAt 5 st 6868 mem (nI k) i) (Ith M (F k) os i) := by
  have hb1 := skf_mono (M := M) (F := F) (show k + 1 ≤ 4 by omega)
  have hb2 : skf M F (k + 1) = skf M F k + cnt M (F k) := rfl
  unfold f_S_memberAt
  refine ok_if (fun q => ?_) (fun q => ?_)
  · refine ok_some (Or.inr ⟨rfl, fun a ha hf e => ?_⟩)
    have := cnt_lt ha hf
    rw [e] at q
    exact absurd q (nI_pos (by omega))
  · obtain ⟨j, hj, rfl⟩ := nI_of q
    refine ok_b1 (chm_ok hk hst) ?_
    rintro r2 rfl
    refine ok_if (fun q2 => ?_) (fun q2 => ?_)
    · have hl := (nI_ltI hj (by omega)).mp q2
      refine ok_in (vp_in_nI (by omega) (by decide)) ?_
      rw [nI_clamp (by omega), hst k (by omega), nI_add]
      refine ok_in (vp_in_nI (by omega) (by decide)) ?_
      rw [nI_clamp (by omega)]
      obtain ⟨t, t1, t2⟩ := cnt_enum M (F k)
      obtain ⟨a1, a2, a3⟩ := t1 j hl
      refine ok_some (Or.inl ⟨t j, a1, a2, by rw [a3], ?_⟩)
      have := hmem (t j) a1 a2
      rw [a3] at this
      exact this
    · have hl : ¬ j < cnt M (F k) := fun h => q2 ((nI_ltI hj (by omega)).mpr h)
      refine ok_some (Or.inr ⟨rfl, fun a ha hf e => ?_⟩)
      have h1 := cnt_lt ha hf
      have h2 := (nI_eq hj (by omega)).mp e
      omega
theorem rhm_ok {rk szs rks els : Nat → Int32} {ρ : Nat → Nat} {N R t kind : Nat} (hN : N ≤ 12) (hR : R ≤ N) (ht : t < 4) (hkind : kind < 4) (hrk : ∀ T, T < 2 ^ N → rk (4096 * t + T) = nI (ρ T)) (hsz : ∀ S, S < 4096 → szs S = nI (cn S)) (hrks : rks t = nI R) (hel : els t = nI N) (hρ : RF N R ρ) : ok (f_R_howMany 16384 rk 4096 szs 4 rks 4 els (nI t) (nI kind)) (fun r => r = nI (cnt (2 ^ N) (Kb N R ρ kind))) := by
  have hM := p2_12 hN
  have hP := Nat.two_pow_pos N
  unfold f_R_howMany
  refine lo2_F (fun v x => ∃ a : Nat, a ≤ 2 ^ N ∧ v = nI a ∧ x = nI (cnt a (Kb N R ρ kind))) (fun v _ => 2 ^ N - v.toNatClampNeg) ?_ ⟨0, Nat.zero_le _, nI_0.symm, rfl⟩ (by omega)
  rintro kr v x ⟨a, ha, rfl, rfl⟩ ih
  refine ok_b1 (wh_ok hN ht hel) ?_
  rintro r3 rfl
  refine ok_if (fun q => ?_) (fun q => ?_)
  · have := (nI_ltI (by omega) (by omega)).mp q
    have e : a = 2 ^ N := by omega
    subst e
    exact ok_some rfl
  · have : ¬ 2 ^ N - 1 < a := fun h => q ((nI_ltI (by omega) (by omega)).mpr h)
    have ha2 : a < 2 ^ N := by omega
    refine ok_b1 (rof_ok hN hR ht hkind ha2 hrk hsz hrks hel hρ) ?_
    rintro r6 rfl
    have hc1 : cnt (a + 1) (Kb N R ρ kind) = cnt a (Kb N R ρ kind) + (if Kb N R ρ kind a = true then 1 else 0) := rfl
    refine ok_jn (fun k33 => ok (k33 (nI (cnt (a + 1) (Kb N R ρ kind)))) (fun r => r = nI (cnt (2 ^ N) (Kb N R ρ kind)))) ?_ ?_
    · refine ok_nmr (nI (a + 1)) (nI_1 ..) ?_
      exact ih _ _ ⟨a + 1, ha2, rfl, rfl⟩ (by rw [nI_clamp (by omega), nI_clamp (by omega)]; omega)
    · intro k33 h33
      cases hf : Kb N R ρ kind a with
      | false =>
        rw [hf] at hc1
        rw [hc1] at h33
        exact ok_if (fun _ => h33) (fun q3 => absurd rfl q3)
      | true =>
        rw [hf] at hc1
        rw [hc1] at h33
        refine ok_if (fun q3 => absurd q3 (by decide)) (fun _ => ?_)
        rw [nI_1]; exact h33
theorem rto_ok {rk szs rks els ord : Nat → Int32} {ρ os : Nat → Nat} {N R t kind : Nat} {i : Int32} (hN : N ≤ 12) (hR : R ≤ N) (ht : t < 4) (hkind : kind < 4) (hrk : ∀ T, T < 2 ^ N → rk (4096 * t + T) = nI (ρ T)) (hsz : ∀ S, S < 4096 → szs S = nI (cn S)) (hrks : rks t = nI R) (hel : els t = nI N) (hρ : RF N R ρ) (hord : ∀ k, k < 4096 → ord k = nI (os k) ∧ os k < 4096) : ok (f_R_theOne 16384 rk 4096 szs 4 rks 4 els 4096 ord (nI t) (nI kind) i) (Ith 4096 (fun k => decide (os k < 2 ^ N) && Kb N R ρ kind (os k)) os i) := by
  have hM := p2_12 hN
  have hP := Nat.two_pow_pos N
  generalize hF : (fun k => decide (os k < 2 ^ N) && Kb N R ρ kind (os k)) = F
  have hFa : ∀ k, F k = (decide (os k < 2 ^ N) && Kb N R ρ kind (os k)) := fun k => by rw [← hF]
  unfold f_R_theOne
  refine lo2_F (fun v x => ∃ a : Nat, a ≤ 4096 ∧ v = nI a ∧ x = nI (cnt a F) ∧ ∀ b, b < a → F b = true → i ≠ nI (cnt b F)) (fun v _ => 4096 - v.toNatClampNeg) ?_ ⟨0, Nat.zero_le _, nI_0.symm, rfl, fun b hb => absurd hb (by omega)⟩ (by omega)
  rintro kr v x ⟨a, ha, rfl, rfl, h1⟩ ih
  refine ok_if (fun q => ?_) (fun q => ?_)
  · have e : a = 4096 := by
      have := (nI_leI (a := 4096) (by omega) (by omega)).mp q
      omega
    subst e
    exact ok_some (Or.inr ⟨rfl, h1⟩)
  · have hlt : a < 4096 := by
      rcases Nat.lt_or_ge a 4096 with q1 | q1
      · exact q1
      · exact absurd ((nI_leI (a := 4096) (by omega) (by omega)).mpr q1) q
    have hca : cnt a F ≤ a := cnt_bd
    refine ok_if (fun q2 => ?_) (fun q2 => ?_)
    · refine ok_some (Or.inr ⟨rfl, fun b hb hf e => ?_⟩)
      have := cnt_bd (f := F) (N := b)
      rw [e] at q2
      exact absurd q2 (nI_pos (by omega))
    · obtain ⟨o1, o2⟩ := hord a hlt
      refine ok_in (vp_in_nI hlt (by decide)) ?_
      refine ok_b1 (wh_ok hN ht hel) ?_
      rintro r6 rfl
      rw [nI_clamp (by omega), o1]
      have hc1 : cnt (a + 1) F = cnt a F + (if F a = true then 1 else 0) := rfl
      refine ok_jn (fun k66 => (F a = true → i ≠ nI (cnt a F)) → ok (k66 (nI (cnt (a + 1) F))) (Ith 4096 F os i)) ?_ ?_
      · intro h2
        refine ok_nmr (nI (a + 1)) (nI_1 ..) ?_
        refine ih _ _ ⟨a + 1, hlt, rfl, rfl, fun b hb hf => ?_⟩ (by rw [nI_clamp (by omega), nI_clamp (by omega)]; omega)
        by_cases q3 : b = a
        · subst q3; exact h2 hf
        · exact h1 b (by omega) hf
      · intro k66 h66
        refine ok_if (fun q3 => ?_) (fun q3 => ?_)
        · have := (nI_ltI (by omega) (by omega)).mp q3
          have hf : F a = false := by
            rw [hFa]
            have : ¬ os a < 2 ^ N := by omega
            simp [this]
          rw [hf] at hc1
          rw [hc1] at h66
          exact h66 (fun h => by rw [hf] at h; cases h)
        · have : ¬ 2 ^ N - 1 < os a := fun h => q3 ((nI_ltI (by omega) (by omega)).mpr h)
          have hoN : os a < 2 ^ N := by omega
          have hfa : F a = Kb N R ρ kind (os a) := by rw [hFa]; simp [hoN]
          refine ok_in (vp_in_nI hlt (by decide)) ?_
          refine ok_b1 (rof_ok hN hR ht hkind hoN hrk hsz hrks hel hρ) ?_
          rintro r12 rfl
          rw [← hfa]
          cases hf : F a with
          | false =>
            rw [hf] at hc1
            rw [hc1] at h66
            exact ok_if (fun _ => h66 (fun h => by rw [hf] at h; cases h)) (fun q4 => absurd rfl q4)
          | true =>
            rw [hf] at hc1
            refine ok_if (fun q4 => absurd q4 (by decide)) (fun _ => ?_)
            refine ok_if (fun q4 => ?_) (fun q4 => ?_)
            · refine ok_in (vp_in_nI hlt (by decide)) ?_
              exact ok_some (Or.inl ⟨a, hlt, hf, q4.symm, rfl⟩)
            · refine ok_nmr (nI (cnt (a + 1) F)) (by rw [nI_1, hc1]; rfl) ?_
              exact h66 (fun _ h => q4 h.symm)
/-- both find the same -/
theorem Ith_un {N R kind : Nat} {ρ κ osC osR : Nat → Nat} {i r r' : Int32} (hN : N ≤ 12) (hC : Od (2 ^ N) κ osC) (hR : Od 4096 κ osR) (hinj : ∀ S T, S < 4096 → T < 4096 → κ S = κ T → S = T) (h1 : Ith (2 ^ N) (fun a => Kb N R ρ kind (osC a)) osC i r) (h2 : Ith 4096 (fun k => decide (osR k < 2 ^ N) && Kb N R ρ kind (osR k)) osR i r') : r = r' := by
  have hM := p2_12 hN
  have hcC : ∀ a, a < 2 ^ N → cnt a (fun a => Kb N R ρ kind (osC a)) = cnt (2 ^ N) (fun T => Kb N R ρ kind T && decide (κ T < κ (osC a))) := fun a ha => Od_cnt (P := Kb N R ρ kind) hC ha
  have hcR : ∀ k, k < 4096 → cnt k (fun k => decide (osR k < 2 ^ N) && Kb N R ρ kind (osR k)) = cnt (2 ^ N) (fun T => Kb N R ρ kind T && decide (κ T < κ (osR k))) := by
    intro k hk
    have := Od_cnt (P := fun T => decide (T < 2 ^ N) && Kb N R ρ kind T) hR hk
    rw [this, ← cnt_pad hN]
    refine cnt_congr (fun T _ => ?_)
    rw [Bool.and_assoc]
  rcases h1 with ⟨a, a1, a2, a3, a4⟩ | ⟨a1, a2⟩ <;> rcases h2 with ⟨k, k1, k2, k3, k4⟩ | ⟨k1, k2⟩
  · rw [a4, k4]
    congr 1
    rw [Bool.and_eq_true] at k2
    have kN := of_decide_eq_true k2.1
    have b1 := cnt_bd (f := fun a => Kb N R ρ kind (osC a)) (N := a)
    have b2 := cnt_bd (f := fun k => decide (osR k < 2 ^ N) && Kb N R ρ kind (osR k)) (N := k)
    have e := (nI_eq (by omega) (by omega)).mp (a3.symm.trans k3)
    rw [hcC a a1, hcR k k1] at e
    exact key_un (P := Kb N R ρ kind) (fun S T hS hT => hinj S T (by omega) (by omega)) (hC.1 a a1) kN a2 k2.2 e
  · exfalso
    obtain ⟨k, kk1, kk2⟩ := inj_sur hR.1 (Od_inj hR) (osC a) (by have := hC.1 a a1; omega)
    refine k2 k kk1 (by dsimp only; rw [kk2]; simp only [Bool.and_eq_true]; exact ⟨decide_eq_true (hC.1 a a1), a2⟩) ?_
    rw [a3, hcC a a1, hcR k kk1, kk2]
  · exfalso
    rw [Bool.and_eq_true] at k2
    have kN := of_decide_eq_true k2.1
    obtain ⟨a, aa1, aa2⟩ := inj_sur hC.1 (Od_inj hC) (osR k) kN
    refine a2 a aa1 (by dsimp only; rw [aa2]; exact k2.2) ?_
    rw [k3, hcC a aa1, hcR k k1, aa2]
  · rw [a1, k1]
