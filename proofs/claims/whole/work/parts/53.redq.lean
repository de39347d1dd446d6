/-! reduce, a prime field: the inner loop -/
theorem elp_ok {R : Type} {Q : R → Prop} {pn pm sm : Nat → Int32} {pd : Nat → Nat → Int32} {p rows n k c : Nat} {kk : (Nat → Int32) → (Nat → Int32) → (Nat → Int32) → (Nat → Nat → Int32) → Option R} (hp : p ∈ PR) (hr : rows ≤ 12) (hn : n ≤ 12) (hk : k < rows) (hc : c < n) (hs : Pe p n rows sm) (hpv : ev sm (12 * k + c) ≠ 0) (hkk : ∀ s : Nat → Int32, Pe p n rows s → (∀ j, j < n → ev s (12 * k + j) = ev sm (12 * k + j)) → (∀ i, i < rows → i ≠ k → Tp p n c k (ev sm) (ev s) i) → ok (kk s pn pm pd) Q) : ok (lo5 (fun k_57 (v4_47 : Int32) (w_48 : Nat → Int32) (pn_49 : Nat → Int32) (pm_50 : Nat → Int32) (pd_51 : Nat → Nat → Int32) => ck_if (nI rows ≤ v4_47) (kk w_48 pn_49 pm_50 pd_51) (ck_jn (fun (w_53 : Nat → Int32) (pn_54 : Nat → Int32) (pm_55 : Nat → Int32) (pd_56 : Nat → Nat → Int32) => ck_nm (v4_47 + 1) <| fun x_57 => k_57 x_57 w_53 pn_54 pm_55 pd_56) <| fun k_90 => ck_if (v4_47 = nI k) (k_90 w_48 pn_49 pm_50 pd_51) (ck_b1 (f_R_isZero (nI p) w_48 pn_49 v4_47 (nI c)) <| fun r_59 => ck_if (r_59 = 0) (ck_b4 (f_R_take (nI n) (nI p) w_48 pn_49 pm_50 pd_51 v4_47 (nI k) (nI c)) <| fun u_62 u_63 u_64 u_65 => k_90 u_62 u_63 u_64 u_65) (k_90 w_48 pn_49 pm_50 pd_51)))) ck_F 0 sm pn pm pd) Q := by
  obtain ⟨p0, p1⟩ := pr_le p hp
  refine lo5_F (fun v s qn qm qd => ∃ a : Nat, a ≤ rows ∧ v = nI a ∧ qn = pn ∧ qm = pm ∧ qd = pd ∧ Pe p n rows s ∧ (∀ j, j < n → ev s (12 * k + j) = ev sm (12 * k + j)) ∧ (∀ i, i < a → i ≠ k → Tp p n c k (ev sm) (ev s) i) ∧ (∀ i, a ≤ i → i < rows → ∀ j, j < n → ev s (12 * i + j) = ev sm (12 * i + j))) (fun v _ _ _ _ => rows - v.toNatClampNeg) ?_ ⟨0, Nat.zero_le _, nI_0.symm, rfl, rfl, rfl, hs, fun _ _ => rfl, fun i hi => absurd hi (by omega), fun _ _ _ _ _ => rfl⟩ (by omega)
  rintro kr v s qn qm qd ⟨a, ha, rfl, rfl, rfl, rfl, h0, h1, h2, h3⟩ ih
  refine ok_if (fun q => ?_) (fun q => ?_)
  · have e : a = rows := by
      have := (nI_leI (by omega) (by omega)).mp q
      omega
    subst e
    exact hkk _ h0 h1 h2
  · have hlt : a < rows := by
      rcases Nat.lt_or_ge a rows with q1 | q1
      · exact q1
      · exact absurd ((nI_leI (by omega) (by omega)).mpr q1) q
    refine ok_jn (fun k90 => ∀ t : Nat → Int32, Pe p n rows t → (a ≠ k → Tp p n c k (ev sm) (ev t) a) → (∀ i, i < rows → (i ≠ a ∨ a = k) → ∀ j, j < n → ev t (12 * i + j) = ev s (12 * i + j)) → ok (k90 t qn qm qd) Q) ?_ ?_
    · intro t ht hT hO
      refine ok_nm (fun v' hv' => ?_)
      subst hv'
      rw [nI_1]
      refine ih _ _ _ _ _ ⟨a + 1, hlt, rfl, rfl, rfl, rfl, ht, ?_, ?_, ?_⟩ (by rw [nI_clamp (by omega), nI_clamp (by omega)]; omega)
      · intro j hj
        rw [hO k hk (by omega) j hj, h1 j hj]
      · intro i hi hik
        by_cases q1 : i = a
        · subst q1; exact hT hik
        · obtain ⟨u, u1, u2⟩ := h2 i (by omega) hik
          exact ⟨u, u1, fun j hj => by rw [hO i (by omega) (Or.inl q1) j hj]; exact u2 j hj⟩
      · intro i hi hir j hj
        rw [hO i hir (Or.inl (by omega)) j hj, h3 i (by omega) hir j hj]
    · intro k90 hk90
      have hrow := h3 a (Nat.le_refl a) hlt
      refine ok_if (fun q1 => ?_) (fun q1 => ?_)
      · have e : a = k := (nI_eq (by omega) (by omega)).mp q1
        exact hk90 _ h0 (fun hh => absurd e hh) (fun _ _ _ _ _ => rfl)
      · have hak : a ≠ k := fun e => q1 (by rw [e])
        refine ok_b1 (izp_ok (by omega) (by omega) (by omega)) ?_
        intro r hrr
        have hval : s (12 * a + c) = 0 ↔ ev sm (12 * a + c) = 0 := by
          rw [(h0 a hlt c hc).1, hrow c hc]
          exact nI_eq0 (by have := (h0 a hlt c hc).2; rw [hrow c hc] at this; omega)
        refine ok_if (fun q2 => ?_) (fun q2 => ?_)
        · refine ok_b4 (tkp_ok (e := ev s) hp (by omega) (by omega) hak hn hc (h0 a hlt) (h0 k hk) (by rw [h1 c hc]; exact hpv)) ?_
          rintro u1 u2 u3 u4 ⟨e1, e2, e3, ⟨u, hu1, hu2⟩, hu3⟩
          dsimp only at e1 e2 e3 hu2 hu3
          subst e1; subst e2; subst e3
          have hoth : ∀ i, i < rows → i ≠ a → ∀ j, j < n → u1 (12 * i + j) = s (12 * i + j) := fun i hi hia j hj => hu3 _ (fun j' hj' => by omega)
          refine hk90 u1 ?_ (fun _ => ⟨u, ?_, fun j hj => ?_⟩) ?_
          · intro i hi j hj
            by_cases q3 : i = a
            · subst q3
              obtain ⟨z, z1, z2, -⟩ := hu2 j hj
              have := ev_eq z2 (by omega)
              rw [this]; exact ⟨z2, z1⟩
            · have g := hoth i hi q3 j hj
              have g2 : ev u1 (12 * i + j) = ev s (12 * i + j) := by unfold ev; rw [g]
              rw [g2, g]; exact h0 i hi j hj
          · rw [h1 c hc, hrow c hc] at hu1; exact hu1
          · obtain ⟨z, z1, z2, z3⟩ := hu2 j hj
            rw [ev_eq z2 (by omega)]
            rw [hrow j hj, h1 j hj] at z3
            exact z3
          · intro i hi hia j hj
            have g := hoth i hi (by omega) j hj
            unfold ev; rw [g]
        · have hz : ev sm (12 * a + c) = 0 := by
            rcases Classical.em (s (12 * a + c) = 0) with e | e
            · exact hval.mp e
            · rw [if_neg e] at hrr; exact absurd hrr q2
          refine hk90 _ h0 (fun _ => ⟨0, ?_, fun j hj => ?_⟩) (fun _ _ _ _ _ => rfl)
          · rw [hz]; simp
          · rw [hrow j hj]; simp
