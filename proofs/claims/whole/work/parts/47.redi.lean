/-! reduce, field 0: all rows but the pivot's are cleared in its column -/
def Tk (n c k : Nat) (V V' : Nat → Int) (i : Nat) : Prop :=
  (V (12 * i + c) = 0 ∧ ∀ j, j < n → V' (12 * i + j) = V (12 * i + j)) ∨
  (V (12 * i + c) ≠ 0 ∧ ∃ U : Nat → Int, (∀ j, j < n → U j = V (12 * i + j) * V (12 * k + c) - V (12 * k + j) * V (12 * i + c)) ∧ ∀ j, j < n → V' (12 * i + j) = (U j).tdiv (rg U 0 n))
theorem el_ok {R : Type} {Q : R → Prop} {pn pm sm : Nat → Int32} {pd : Nat → Nat → Int32} {V : Nat → Int} {rows n k c : Nat} {kk : (Nat → Int32) → (Nat → Int32) → (Nat → Int32) → (Nat → Nat → Int32) → Option R} (h : PO pn pm pd V) (hr : rows ≤ 12) (hn : n ≤ 12) (hk : k < rows) (hc : c < n) (hs : ∀ i j, i < rows → j < n → sz (V (12 * i + j)) 70) (hkk : ∀ (qn qm : Nat → Int32) (qd : Nat → Nat → Int32) (W : Nat → Int), PO qn qm qd W → (∀ j, j < n → W (12 * k + j) = V (12 * k + j)) → (∀ i, i < rows → i ≠ k → Tk n c k V W i) → (∀ q, q < 192 → (∀ i j, i < rows → j < n → q ≠ 12 * i + j) → W q = V q) → ok (kk sm qn qm qd) Q) : ok (lo5 (fun k_57 (v4_47 : Int32) (w_48 : Nat → Int32) (pn_49 : Nat → Int32) (pm_50 : Nat → Int32) (pd_51 : Nat → Nat → Int32) => ck_if (nI rows ≤ v4_47) (kk w_48 pn_49 pm_50 pd_51) (ck_jn (fun (w_53 : Nat → Int32) (pn_54 : Nat → Int32) (pm_55 : Nat → Int32) (pd_56 : Nat → Nat → Int32) => ck_nm (v4_47 + 1) <| fun x_57 => k_57 x_57 w_53 pn_54 pm_55 pd_56) <| fun k_90 => ck_if (v4_47 = nI k) (k_90 w_48 pn_49 pm_50 pd_51) (ck_b1 (f_R_isZero 0 w_48 pn_49 v4_47 (nI c)) <| fun r_59 => ck_if (r_59 = 0) (ck_b4 (f_R_take (nI n) 0 w_48 pn_49 pm_50 pd_51 v4_47 (nI k) (nI c)) <| fun u_62 u_63 u_64 u_65 => k_90 u_62 u_63 u_64 u_65) (k_90 w_48 pn_49 pm_50 pd_51)))) ck_F 0 sm pn pm pd) Q := by
  refine lo5_F (fun v s qn qm qd => ∃ (a : Nat) (W : Nat → Int), a ≤ rows ∧ v = nI a ∧ s = sm ∧ PO qn qm qd W ∧ (∀ j, j < n → W (12 * k + j) = V (12 * k + j)) ∧ (∀ i, i < a → i ≠ k → Tk n c k V W i) ∧ (∀ i, a ≤ i → i < rows → ∀ j, j < n → W (12 * i + j) = V (12 * i + j)) ∧ ∀ q, q < 192 → (∀ i j, i < rows → j < n → q ≠ 12 * i + j) → W q = V q) (fun v _ _ _ _ => rows - v.toNatClampNeg) ?_ ⟨0, V, Nat.zero_le _, nI_0.symm, rfl, h, fun _ _ => rfl, fun i hi => absurd hi (by omega), fun _ _ _ _ _ => rfl, fun _ _ _ => rfl⟩ (by omega)
  rintro kr v s qn qm qd ⟨a, W, ha, rfl, rfl, hP, h1, h2, h3, h4⟩ ih
  refine ok_if (fun q => ?_) (fun q => ?_)
  · have e : a = rows := by
      have := (nI_leI (by omega) (by omega)).mp q
      omega
    subst e
    exact hkk _ _ _ W hP h1 h2 h4
  · have hlt : a < rows := by
      rcases Nat.lt_or_ge a rows with q1 | q1
      · exact q1
      · exact absurd ((nI_leI (by omega) (by omega)).mpr q1) q
    refine ok_jn (fun k90 => ∀ (rn rm : Nat → Int32) (rd : Nat → Nat → Int32) (X : Nat → Int), PO rn rm rd X → (a ≠ k → Tk n c k V X a) → (∀ q, q < 192 → (a = k ∨ ∀ j, j < n → q ≠ 12 * a + j) → X q = W q) → ok (k90 s rn rm rd) Q) ?_ ?_
    · intro rn rm rd X hX hT hO
      refine ok_nm (fun v' hv' => ?_)
      subst hv'
      rw [nI_1]
      refine ih _ _ _ _ _ ⟨a + 1, X, hlt, rfl, rfl, hX, ?_, ?_, ?_, ?_⟩ (by rw [nI_clamp (by omega), nI_clamp (by omega)]; omega)
      · intro j hj
        rw [hO _ (by omega) ?_, h1 j hj]
        by_cases q1 : a = k
        · exact Or.inl q1
        · exact Or.inr (fun j' hj' => by omega)
      · intro i hi hik
        by_cases q1 : i = a
        · subst q1; exact hT hik
        · have hx : ∀ j, j < n → X (12 * i + j) = W (12 * i + j) := fun j hj => hO _ (by omega) (Or.inr (fun j' hj' => by omega))
          rcases h2 i (by omega) hik with ⟨g1, g2⟩ | ⟨g1, U, g2, g3⟩
          · exact Or.inl ⟨g1, fun j hj => by rw [hx j hj, g2 j hj]⟩
          · exact Or.inr ⟨g1, U, g2, fun j hj => by rw [hx j hj, g3 j hj]⟩
      · intro i hi hir j hj
        rw [hO _ (by omega) (Or.inr (fun j' hj' => by omega)), h3 i (by omega) hir j hj]
      · intro q hq hqq
        rw [hO q hq (Or.inr (fun j hj => hqq a j hlt hj)), h4 q hq hqq]
    · intro k90 hk90
      have hrow := h3 a (Nat.le_refl a) hlt
      refine ok_if (fun q1 => ?_) (fun q1 => ?_)
      · have e : a = k := (nI_eq (by omega) (by omega)).mp q1
        exact hk90 _ _ _ W hP (fun hh => absurd e hh) (fun _ _ _ => rfl)
      · have hak : a ≠ k := fun e => q1 (by rw [e])
        refine ok_b1 (iz_ok hP (by omega) (by rw [hrow c hc]; exact sz_mono (hs a c hlt hc) (by decide))) ?_
        intro r hrr
        rw [hrow c hc] at hrr
        refine ok_if (fun q2 => ?_) (fun q2 => ?_)
        · have hne : V (12 * a + c) ≠ 0 := by
            intro e
            rw [if_pos e] at hrr
            rw [hrr] at q2
            exact absurd q2 (by decide)
          refine ok_b4 (tk_ok hP (by omega) (by omega) hak hn hc (fun j hj => by rw [hrow j hj]; exact hs a j hlt hj) (fun j hj => by rw [h1 j hj]; exact hs k j hk hj)) ?_
          rintro u1 u2 u3 u4 ⟨e1, X, hX, ⟨U, hU1, hU2⟩, hX3⟩
          dsimp only at e1 hX
          subst e1
          refine hk90 _ _ _ X hX (fun _ => Or.inr ⟨hne, U, fun j hj => ?_, hU2⟩) (fun q hq hqq => ?_)
          · rw [hU1 j hj, hrow j hj, hrow c hc, h1 c hc, h1 j hj]
          · rcases hqq with e | hqq
            · exact absurd e hak
            · exact hX3 q hq hqq
        · have hz : V (12 * a + c) = 0 := by
            rcases Classical.em (V (12 * a + c) = 0) with e | e
            · exact e
            · rw [if_neg e] at hrr; exact absurd hrr q2
          exact hk90 _ _ _ W hP (fun _ => Or.inl ⟨hz, hrow⟩) (fun _ _ _ => rfl)
