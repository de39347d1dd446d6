/-! learn: the numbers laid -/
theorem ixT (t i j : Nat) : ((144 : Int32) * nI t + 12 * nI i) + nI j = nI (144 * t + 12 * i + j) := by
  rw [show (144 : Int32) = nI 144 from rfl, show (12 : Int32) = nI 12 from rfl, pk_mul, pk_mul, nI_add, nI_add]
def Nb (nb : Nat → Int32) (t : Nat) (i j : Nat) : Int := (nb (144 * t + 12 * i + j)).toInt
theorem la0_ok {R : Type} {Q : R → Prop} {nb sm pn pm : Nat → Int32} {pd : Nat → Nat → Int32} {V : Nat → Int} {t rows N : Nat} {kk : (Nat → Int32) → (Nat → Int32) → (Nat → Int32) → (Nat → Nat → Int32) → Option R} (h : PO pn pm pd V) (ht : t < 4) (hr : rows ≤ 12) (hN : N ≤ 12) (hnb : ∀ i j, i < rows → j < N → -999 ≤ Nb nb t i j ∧ Nb nb t i j ≤ 999) (hkk : ∀ (qn qm : Nat → Int32) (qd : Nat → Nat → Int32) (W : Nat → Int), PO qn qm qd W → (∀ i j, i < rows → j < N → W (12 * i + j) = Nb nb t i j) → (∀ q, (∀ i j, i < rows → j < N → q ≠ 12 * i + j) → W q = V q) → ok (kk sm qn qm qd) Q) :
    ok (lo5 (fun k_46 (v2_35 : Int32) (w_36 : Nat → Int32) (pn_37 : Nat → Int32) (pm_38 : Nat → Int32) (pd_39 : Nat → Nat → Int32) => ck_if (nI rows ≤ v2_35) (kk w_36 pn_37 pm_38 pd_39) (ck_jn (fun (w_41 : Nat → Int32) (pn_42 : Nat → Int32) (pm_43 : Nat → Int32) (pd_44 : Nat → Nat → Int32) => ck_nm (v2_35 + 1) <| fun x_45 => k_46 x_45 w_41 pn_42 pm_43 pd_44) <| fun k_94 => lo5 (fun k_56 (v3_46 : Int32) (w_47 : Nat → Int32) (pn_48 : Nat → Int32) (pm_49 : Nat → Int32) (pd_50 : Nat → Nat → Int32) => ck_if (nI N ≤ v3_46) (k_94 w_47 pn_48 pm_49 pd_50) (ck_in (((144 * nI t) + (12 * v2_35)) + v3_46) 576 <| ck_b4 (f_R_lay 0 w_47 pn_48 pm_49 pd_50 v2_35 v3_46 ((nb (((144 * nI t) + (12 * v2_35)) + v3_46).toNatClampNeg).toInt64)) <| fun u_53 u_54 u_55 u_56 => ck_nm (v3_46 + 1) <| fun x_58 => k_56 x_58 u_53 u_54 u_55 u_56)) ck_F 0 w_36 pn_37 pm_38 pd_39)) ck_F 0 sm pn pm pd) Q := by
  refine lo5_F (fun v s qn qm qd => ∃ (a : Nat) (W : Nat → Int), a ≤ rows ∧ v = nI a ∧ s = sm ∧ PO qn qm qd W ∧ (∀ i j, i < a → j < N → W (12 * i + j) = Nb nb t i j) ∧ (∀ q, (∀ i j, i < a → j < N → q ≠ 12 * i + j) → W q = V q)) (fun v _ _ _ _ => rows - v.toNatClampNeg) ?_ ⟨0, V, Nat.zero_le _, nI_0.symm, rfl, h, fun i _ hi => absurd hi (by omega), fun _ _ => rfl⟩ (by omega)
  rintro kr v s qn qm qd ⟨a, W, ha, rfl, rfl, hW, h1, h2⟩ ih
  refine ok_if (fun q => ?_) (fun q => ?_)
  · have e : a = rows := by
      have := (nI_leI (by omega) (by omega)).mp q
      omega
    subst e
    exact hkk _ _ _ W hW h1 h2
  · have hlt : a < rows := by
      rcases Nat.lt_or_ge a rows with q1 | q1
      · exact q1
      · exact absurd ((nI_leI (by omega) (by omega)).mpr q1) q
    refine ok_jn (fun k94 => ∀ (qn qm : Nat → Int32) (qd : Nat → Nat → Int32) (X : Nat → Int), PO qn qm qd X → (∀ j, j < N → X (12 * a + j) = Nb nb t a j) → (∀ q, (∀ j, j < N → q ≠ 12 * a + j) → X q = W q) → ok (k94 s qn qm qd) Q) ?_ ?_
    · intro qn' qm' qd' X hX x1 x2
      refine ok_nmr (nI (a + 1)) (nI_1 ..) ?_
      refine ih _ _ _ _ _ ⟨a + 1, X, hlt, rfl, rfl, hX, fun i j hi hj => ?_, fun q hq => ?_⟩ (by rw [nI_clamp (by omega), nI_clamp (by omega)]; omega)
      · by_cases q2 : i = a
        · subst q2; exact x1 j hj
        · rw [x2 _ (fun j' hj' => by omega)]; exact h1 i j (by omega) hj
      · rw [x2 q (fun j hj => hq a j (by omega) hj)]; exact h2 q (fun i j hi hj => hq i j (by omega) hj)
    · intro k94 h94
      refine lo5_F (fun v s' qn qm qd => ∃ (b : Nat) (X : Nat → Int), b ≤ N ∧ v = nI b ∧ s' = s ∧ PO qn qm qd X ∧ (∀ j, j < b → X (12 * a + j) = Nb nb t a j) ∧ (∀ q, (∀ j, j < b → q ≠ 12 * a + j) → X q = W q)) (fun v _ _ _ _ => N - v.toNatClampNeg) ?_ ⟨0, W, Nat.zero_le _, nI_0.symm, rfl, hW, fun i hi => absurd hi (by omega), fun _ _ => rfl⟩ (by omega)
      rintro ks v s' rn rm rd ⟨b, X, hb, rfl, rfl, hX, x1, x2⟩ ih2
      refine ok_if (fun q2 => ?_) (fun q2 => ?_)
      · have e : b = N := by
          have := (nI_leI (by omega) (by omega)).mp q2
          omega
        subst e
        exact h94 _ _ _ X hX x1 x2
      · have hb2 : b < N := by
          rcases Nat.lt_or_ge b N with q1 | q1
          · exact q1
          · exact absurd ((nI_leI (by omega) (by omega)).mpr q1) q2
        rw [ixT]
        refine ok_in (vp_in_nI (by omega) (by decide)) ?_
        rw [nI_clamp (by omega)]
        obtain ⟨n1, n2⟩ := hnb a b hlt hb2
        unfold Nb at n1 n2
        refine ok_b4 (ly_ok hX (by omega) (by rw [Int32.toInt_toInt64]; omega) (by rw [Int32.toInt_toInt64]; omega)) ?_
        rintro u1 u2 u3 u4 ⟨e1, e2⟩
        dsimp only at e1 e2
        subst e1
        rw [Int32.toInt_toInt64] at e2
        refine ok_nmr (nI (b + 1)) (nI_1 ..) ?_
        refine ih2 _ _ _ _ _ ⟨b + 1, _, hb2, rfl, rfl, e2, fun j hj => ?_, fun q hq => ?_⟩ (by rw [nI_clamp (by omega), nI_clamp (by omega)]; omega)
        · by_cases q3 : j = b
          · subst q3; rw [vu_s]; rfl
          · rw [vu_n (by omega)]; exact x1 j (by omega)
        · rw [vu_n (hq b (by omega))]; exact x2 q (fun j hj => hq j (by omega))
theorem lap_ok {R : Type} {Q : R → Prop} {nb sm pn pm : Nat → Int32} {pd : Nat → Nat → Int32} {p t rows N : Nat} {kk : (Nat → Int32) → (Nat → Int32) → (Nat → Int32) → (Nat → Nat → Int32) → Option R} (hp : p ∈ PR) (ht : t < 4) (hr : rows ≤ 12) (hN : N ≤ 12) (hnb : ∀ i j, i < rows → j < N → -999 ≤ Nb nb t i j ∧ Nb nb t i j ≤ 999) (hkk : ∀ s : Nat → Int32, Pe p N rows s → (∀ i j, i < rows → j < N → (p : Int) ∣ (ev s (12 * i + j) : Int) - Nb nb t i j) → ok (kk s pn pm pd) Q) :
    ok (lo5 (fun k_46 (v2_35 : Int32) (w_36 : Nat → Int32) (pn_37 : Nat → Int32) (pm_38 : Nat → Int32) (pd_39 : Nat → Nat → Int32) => ck_if (nI rows ≤ v2_35) (kk w_36 pn_37 pm_38 pd_39) (ck_jn (fun (w_41 : Nat → Int32) (pn_42 : Nat → Int32) (pm_43 : Nat → Int32) (pd_44 : Nat → Nat → Int32) => ck_nm (v2_35 + 1) <| fun x_45 => k_46 x_45 w_41 pn_42 pm_43 pd_44) <| fun k_94 => lo5 (fun k_56 (v3_46 : Int32) (w_47 : Nat → Int32) (pn_48 : Nat → Int32) (pm_49 : Nat → Int32) (pd_50 : Nat → Nat → Int32) => ck_if (nI N ≤ v3_46) (k_94 w_47 pn_48 pm_49 pd_50) (ck_in (((144 * nI t) + (12 * v2_35)) + v3_46) 576 <| ck_b4 (f_R_lay (nI p) w_47 pn_48 pm_49 pd_50 v2_35 v3_46 ((nb (((144 * nI t) + (12 * v2_35)) + v3_46).toNatClampNeg).toInt64)) <| fun u_53 u_54 u_55 u_56 => ck_nm (v3_46 + 1) <| fun x_58 => k_56 x_58 u_53 u_54 u_55 u_56)) ck_F 0 w_36 pn_37 pm_38 pd_39)) ck_F 0 sm pn pm pd) Q := by
  obtain ⟨p0, p1⟩ := pr_le p hp
  refine lo5_F (fun v s qn qm qd => ∃ a : Nat, a ≤ rows ∧ v = nI a ∧ qn = pn ∧ qm = pm ∧ qd = pd ∧ (∀ i j, i < a → j < N → ∃ z : Nat, z < p ∧ s (12 * i + j) = nI z ∧ (p : Int) ∣ (z : Int) - Nb nb t i j)) (fun v _ _ _ _ => rows - v.toNatClampNeg) ?_ ⟨0, Nat.zero_le _, nI_0.symm, rfl, rfl, rfl, fun i _ hi => absurd hi (by omega)⟩ (by omega)
  rintro kr v s qn qm qd ⟨a, ha, rfl, rfl, rfl, rfl, h1⟩ ih
  refine ok_if (fun q => ?_) (fun q => ?_)
  · have e : a = rows := by
      have := (nI_leI (by omega) (by omega)).mp q
      omega
    subst e
    refine hkk s (fun i hi j hj => ?_) (fun i j hi hj => ?_)
    · obtain ⟨z, z1, z2, z3⟩ := h1 i j hi hj
      rw [ev_eq z2 (by omega)]; exact ⟨z2, z1⟩
    · obtain ⟨z, z1, z2, z3⟩ := h1 i j hi hj
      rw [ev_eq z2 (by omega)]; exact z3
  · have hlt : a < rows := by
      rcases Nat.lt_or_ge a rows with q1 | q1
      · exact q1
      · exact absurd ((nI_leI (by omega) (by omega)).mpr q1) q
    refine ok_jn (fun k94 => ∀ s' : Nat → Int32, (∀ j, j < N → ∃ z : Nat, z < p ∧ s' (12 * a + j) = nI z ∧ (p : Int) ∣ (z : Int) - Nb nb t a j) → (∀ q, (∀ j, j < N → q ≠ 12 * a + j) → s' q = s q) → ok (k94 s' qn qm qd) Q) ?_ ?_
    · intro s' x1 x2
      refine ok_nmr (nI (a + 1)) (nI_1 ..) ?_
      refine ih _ _ _ _ _ ⟨a + 1, hlt, rfl, rfl, rfl, rfl, fun i j hi hj => ?_⟩ (by rw [nI_clamp (by omega), nI_clamp (by omega)]; omega)
      by_cases q2 : i = a
      · subst q2; exact x1 j hj
      · rw [x2 _ (fun j' hj' => by omega)]; exact h1 i j (by omega) hj
    · intro k94 h94
      refine lo5_F (fun v s' rn rm rd => ∃ b : Nat, b ≤ N ∧ v = nI b ∧ rn = qn ∧ rm = qm ∧ rd = qd ∧ (∀ j, j < b → ∃ z : Nat, z < p ∧ s' (12 * a + j) = nI z ∧ (p : Int) ∣ (z : Int) - Nb nb t a j) ∧ (∀ q, (∀ j, j < b → q ≠ 12 * a + j) → s' q = s q)) (fun v _ _ _ _ => N - v.toNatClampNeg) ?_ ⟨0, Nat.zero_le _, nI_0.symm, rfl, rfl, rfl, fun i hi => absurd hi (by omega), fun _ _ => rfl⟩ (by omega)
      rintro ks v s' rn rm rd ⟨b, hb, rfl, rfl, rfl, rfl, x1, x2⟩ ih2
      refine ok_if (fun q2 => ?_) (fun q2 => ?_)
      · have e : b = N := by
          have := (nI_leI (by omega) (by omega)).mp q2
          omega
        subst e
        exact h94 s' x1 x2
      · have hb2 : b < N := by
          rcases Nat.lt_or_ge b N with q1 | q1
          · exact q1
          · exact absurd ((nI_leI (by omega) (by omega)).mpr q1) q2
        rw [ixT]
        refine ok_in (vp_in_nI (by omega) (by decide)) ?_
        rw [nI_clamp (by omega)]
        obtain ⟨n1, n2⟩ := hnb a b hlt hb2
        unfold Nb at n1 n2
        refine ok_b4 (lyp_ok hp (by omega) (by rw [Int32.toInt_toInt64]; omega) (by rw [Int32.toInt_toInt64]; omega)) ?_
        rintro u1 u2 u3 u4 ⟨e1, e2, e3, z, z1, z2, e4⟩
        dsimp only at e1 e2 e3 e4
        subst e1; subst e2; subst e3; subst e4
        rw [Int32.toInt_toInt64] at z2
        refine ok_nmr (nI (b + 1)) (nI_1 ..) ?_
        refine ih2 _ _ _ _ _ ⟨b + 1, hb2, rfl, rfl, rfl, rfl, fun j hj => ?_, fun q hq => ?_⟩ (by rw [nI_clamp (by omega), nI_clamp (by omega)]; omega)
        · by_cases q3 : j = b
          · subst q3; exact ⟨z, z1, pk_us, z2⟩
          · rw [pk_un (by omega)]; exact x1 j (by omega)
        · rw [pk_un (hq b (by omega))]; exact x2 q (fun j hj => hq j (by omega))
theorem kill_cg {m : Int} {N rows : Nat} {a b : Nat → Nat → Int} {w : Nat → Int} (h : ∀ i j, i < rows → j < N → m ∣ a i j - b i j) : Kill m N rows a w ↔ Kill m N rows b w := by
  have key : ∀ i, i < rows → ∀ S, m ∣ wd N (a i) w S - wd N (b i) w S := by
    intro i hi S
    have := wd_lin3 (m := m) (n := N) (a' := a i) (a := b i) (b := b i) (w := w) (g := 1) (x := 1) (y := 0) (fun e he => by
      have := h i e hi he
      rwa [Int.one_mul, Int.one_mul, Int.zero_mul, Int.sub_zero]) S
    rwa [Int.one_mul, Int.one_mul, Int.zero_mul, Int.sub_zero] at this
  constructor
  · intro hk i hi S; exact (dv_tr (key i hi S)).mp (hk i hi S)
  · intro hk i hi S; exact (dv_tr (key i hi S)).mpr (hk i hi S)
/-- the reduced rows of a table -/
def RT (m N rows : Nat) (A : Nat → Nat → Int) (R : Nat) (pv : Nat → Nat) (E : Nat → Nat → Int) : Prop :=
  R ≤ rows ∧ (∀ i, i < R → pv i < N) ∧ (∀ i j, i < j → j < R → pv i < pv j) ∧ (∀ i j, i < R → j < R → i ≠ j → E i (pv j) = 0) ∧ (∀ i, i < R → ¬ (m : Int) ∣ E i (pv i)) ∧
  ∀ w, Kill (m : Int) N R E w ↔ Kill (m : Int) N rows A w
def cvR (m N R : Nat) (E : Nat → Nat → Int) (S : Nat) : Int32 := if S < 2 ^ N ∧ cn S = R then (if m = 0 then sI (tri R * wl N (ol E R) S) else if (m : Int) ∣ wl N (ol E R) S then 0 else 1) else 0
theorem cvR_tv {m N R : Nat} {E : Nat → Nat → Int} (S : Nat) : tv (cvR m N R E S) := by
  unfold cvR tv sI
  split
  · split
    · split
      · exact Or.inl rfl
      · split
        · exact Or.inr (Or.inr rfl)
        · exact Or.inr (Or.inl rfl)
    · split
      · exact Or.inl rfl
      · exact Or.inr (Or.inl rfl)
  · exact Or.inl rfl
theorem cvR_0 {m N R : Nat} {E : Nat → Nat → Int} {S : Nat} (h : cn S ≠ R) : cvR m N R E S = 0 := by
  unfold cvR; rw [if_neg (fun q => h q.2)]
theorem sI_0 {x : Int} : sI x = 0 ↔ x = 0 := by
  unfold sI
  constructor
  · intro h
    by_cases q : x = 0
    · exact q
    · rw [if_neg q] at h
      split at h <;> exact absurd h (by decide)
  · intro h; rw [if_pos h]
theorem tri_n0 (R : Nat) : tri R ≠ 0 := by
  intro h
  have := tri_sq R
  rw [h] at this; cases this
theorem cvR_ne {m N R : Nat} {E : Nat → Nat → Int} {S : Nat} (hS : S < 2 ^ N) (hc : cn S = R) : cvR m N R E S ≠ 0 ↔ ¬ (m : Int) ∣ wl N (ol E R) S := by
  unfold cvR
  rw [if_pos ⟨hS, hc⟩]
  by_cases q : m = 0
  · subst q
    rw [if_pos rfl, Ne, sI_0]
    constructor
    · intro h hd
      apply h
      rw [z_dvd.mp hd, Int.mul_zero]
    · intro h hd
      rcases Int.mul_eq_zero.mp hd with q | q
      · exact tri_n0 R q
      · exact h (z_dvd.mpr q)
  · rw [if_neg q]
    by_cases q2 : (m : Int) ∣ wl N (ol E R) S
    · rw [if_pos q2]; exact ⟨fun h => absurd rfl h, fun h => absurd q2 h⟩
    · rw [if_neg q2]; exact ⟨fun _ => q2, fun _ => by decide⟩
theorem RT_le {m N rows R : Nat} {A : Nat → Nat → Int} {pv : Nat → Nat} {E : Nat → Nat → Int} (h : RT m N rows A R pv E) : R ≤ N := by
  obtain ⟨h1, h2, h3, -⟩ := h
  have := inP_cnt h2 (inc_inj h3)
  have := cnt_bd (f := inP R pv) (N := N)
  omega
theorem RT_P {m N rows R : Nat} {A : Nat → Nat → Int} {pv : Nat → Nat} {E : Nat → Nat → Int} (hm : FdP m) (hN : N ≤ 12) (h : RT m N rows A R pv E) : msk N (inP R pv) < 2 ^ N ∧ cn (msk N (inP R pv)) = R ∧ ¬ (m : Int) ∣ wl N (ol E R) (msk N (inP R pv)) := by
  obtain ⟨h1, h2, h3, h4, h5, h6⟩ := h
  refine ⟨msk_lt, ?_, ?_⟩
  · rw [← cn_N (msk_lt (n := N) (f := inP R pv)) hN]
    have : cnt N (msk N (inP R pv)).testBit = cnt N (inP R pv) := cnt_congr (fun e he => by rw [msk_bit]; simp [he])
    rw [this, inP_cnt h2 (inc_inj h3)]
  · refine wl_pivs hm ?_ h2 h3 h4 h5
    rcases hm with q | q
    · subst q; intro hd; have := z_dvd.mp hd; cases this
    · obtain ⟨p0, p1⟩ := pr_le m q
      intro hd
      have := Int.le_of_dvd (by decide) hd
      omega
