/-! determinant: one step of the elimination over the minor's places -/
theorem ix6 (i j : Nat) : (6 : Int32) * nI i + nI j = nI (6 * i + j) := by rw [show (6 : Int32) = nI 6 from rfl, pk_mul, nI_add]
theorem nI_sub1 {k : Nat} (h : 1 ≤ k) : nI k - 1 = nI (k - 1) := by
  obtain ⟨j, rfl⟩ : ∃ j, k = j + 1 := ⟨k - 1, by omega⟩
  rw [vj_sub]; rfl
theorem ix6p {c : Nat} (h : 1 ≤ c) : (6 : Int32) * (nI c - 1) + nI c - 1 = nI (6 * (c - 1) + (c - 1)) := by
  rw [nI_sub1 h, ix6, nI_sub1 (by omega), show 6 * (c - 1) + c - 1 = 6 * (c - 1) + (c - 1) by omega]
theorem tdiv_szI {v w : Int} {c : Nat} (h : sz v c) : sz (v.tdiv w) c := by
  have h1 : (v.tdiv w).natAbs ≤ v.natAbs := by rw [Int.natAbs_tdiv]; exact Nat.div_le_self _ _
  have h2 := h.1
  have h3 := h.2
  unfold sz
  omega
theorem bj_ok {R : Type} {Q : R → Prop} {pn pm : Nat → Int32} {pd : Nat → Nat → Int32} {V : Nat → Int} {n k c : Nat} {D : Int} {kk : (Nat → Int32) → (Nat → Int32) → (Nat → Nat → Int32) → Option R} (h : PO pn pm pd V) (hn : n ≤ 6) (hck : c < k) (hk : k < n) (hD : D ≠ 0) (hD0 : c = 0 → D = 1) (hD1 : 1 ≤ c → V (156 + (6 * (c - 1) + (c - 1))) = D) (hDs : sz D 75) (hs : ∀ i j, i < n → j < n → c ≤ i → c ≤ j → sz (V (156 + (6 * i + j))) 75)
    (hkk : ∀ (qn qm : Nat → Int32) (qd : Nat → Nat → Int32) (W : Nat → Int), PO qn qm qd W → (∀ j, c < j → j < n → W (156 + (6 * k + j)) = (V (156 + (6 * k + j)) * V (156 + (6 * c + c)) - V (156 + (6 * k + c)) * V (156 + (6 * c + j))).tdiv D) → (∀ q, q < 192 → (∀ j, c < j → j < n → q ≠ 156 + (6 * k + j)) → W q = V q) → ok (kk qn qm qd) Q) :
    ok (lo4 (fun k_223 (v6_40 : Int32) (pn_41 : Nat → Int32) (pm_42 : Nat → Int32) (pd_43 : Nat → Nat → Int32) => ck_if (nI n ≤ v6_40) (kk pn_41 pm_42 pd_43) (ck_in ((6 * nI k) + v6_40) 36 <| ck_nm (156 + ((6 * nI k) + v6_40).toNatClampNeg) <| fun kp_46 => ck_in ((6 * nI c) + nI c) 36 <| ck_nm (156 + ((6 * nI c) + nI c).toNatClampNeg) <| fun kp_48 => ck_p (192 ≠ kp_46 ∧ 192 ≠ kp_48 ∧ kp_46 ≠ kp_48) <| ck_b3 (f_N_product 160 (pd_43 192) (pn_41 kp_46) (pm_42 kp_46) 160 (pd_43 kp_46) (pn_41 kp_48) (pm_42 kp_48) 160 (pd_43 kp_48)) <| fun u_49 u_50 u_51 => ck_nm (upd pn_41 192 u_49) <| fun pn_53 => ck_nm (upd pm_42 192 u_50) <| fun pm_54 => ck_nm (va_up pd_43 192 u_51) <| fun pd_55 => ck_in ((6 * nI k) + nI c) 36 <| ck_nm (156 + ((6 * nI k) + nI c).toNatClampNeg) <| fun kp_67 => ck_in ((6 * nI c) + v6_40) 36 <| ck_nm (156 + ((6 * nI c) + v6_40).toNatClampNeg) <| fun kp_69 => ck_p (193 ≠ kp_67 ∧ 193 ≠ kp_69 ∧ kp_67 ≠ kp_69) <| ck_b3 (f_N_product 160 (pd_55 193) (pn_53 kp_67) (pm_54 kp_67) 160 (pd_55 kp_67) (pn_53 kp_69) (pm_54 kp_69) 160 (pd_55 kp_69)) <| fun u_70 u_71 u_72 => ck_nm (upd pn_53 193 u_70) <| fun pn_74 => ck_nm (upd pm_54 193 u_71) <| fun pm_75 => ck_nm (va_up pd_55 193 u_72) <| fun pd_76 => ck_p (194 ≠ 192 ∧ 194 ≠ 193 ∧ 192 ≠ 193) <| ck_b3 (f_N_less 160 (pd_76 194) (pn_74 192) (pm_75 192) 160 (pd_76 192) (pn_74 193) (pm_75 193) 160 (pd_76 193)) <| fun u_87 u_88 u_89 => ck_nm (upd pn_74 194 u_87) <| fun pn_91 => ck_nm (upd pm_75 194 u_88) <| fun pm_92 => ck_nm (va_up pd_76 194 u_89) <| fun pd_93 => ck_jn (fun (pn_104 : Nat → Int32) (pm_105 : Nat → Int32) (pd_106 : Nat → Nat → Int32) => ck_nm (v6_40 + 1) <| fun x_107 => k_223 x_107 pn_104 pm_105 pd_106) <| fun k_383 => ck_if (nI c ≤ 0) (ck_in ((6 * nI k) + v6_40) 36 <| ck_nm (156 + ((6 * nI k) + v6_40).toNatClampNeg) <| fun kp_110 => ck_p (kp_110 ≠ 194) <| ck_b3 (f_N_copy 160 (pd_93 kp_110) (pn_91 194) (pm_92 194) 160 (pd_93 194)) <| fun u_111 u_112 u_113 => ck_nm (upd pn_91 kp_110 u_111) <| fun pn_115 => ck_nm (upd pm_92 kp_110 u_112) <| fun pm_116 => ck_nm (va_up pd_93 kp_110 u_113) <| fun pd_117 => k_383 pn_115 pm_116 pd_117) (ck_in (((6 * (nI c - 1)) + nI c) - 1) 36 <| ck_nm (156 + (((6 * (nI c - 1)) + nI c) - 1).toNatClampNeg) <| fun kp_126 => ck_p (192 ≠ 194 ∧ 192 ≠ kp_126 ∧ 192 ≠ 193 ∧ 194 ≠ kp_126 ∧ 194 ≠ 193 ∧ kp_126 ≠ 193) <| ck_b6 (f_N_quotient 160 (pd_93 192) (pn_91 194) (pm_92 194) 160 (pd_93 194) (pn_91 kp_126) (pm_92 kp_126) 160 (pd_93 kp_126) 160 (pd_93 193)) <| fun u_127 u_128 u_129 u_130 u_131 u_132 => ck_nm (upd (upd pn_91 192 u_127) 193 u_130) <| fun pn_134 => ck_nm (upd (upd pm_92 192 u_128) 193 u_131) <| fun pm_135 => ck_nm (va_up (va_up pd_93 192 u_129) 193 u_132) <| fun pd_136 => ck_in ((6 * nI k) + v6_40) 36 <| ck_nm (156 + ((6 * nI k) + v6_40).toNatClampNeg) <| fun kp_151 => ck_p (kp_151 ≠ 192) <| ck_b3 (f_N_copy 160 (pd_136 kp_151) (pn_134 192) (pm_135 192) 160 (pd_136 192)) <| fun u_152 u_153 u_154 => ck_nm (upd pn_134 kp_151 u_152) <| fun pn_156 => ck_nm (upd pm_135 kp_151 u_153) <| fun pm_157 => ck_nm (va_up pd_136 kp_151 u_154) <| fun pd_158 => k_383 pn_156 pm_157 pd_158))) ck_F (nI (c + 1)) pn pm pd) Q := by
  refine lo4_F (fun v qn qm qd => ∃ (j : Nat) (W : Nat → Int), c < j ∧ j ≤ n ∧ v = nI j ∧ PO qn qm qd W ∧ (∀ p, c < p → p < j → W (156 + (6 * k + p)) = (V (156 + (6 * k + p)) * V (156 + (6 * c + c)) - V (156 + (6 * k + c)) * V (156 + (6 * c + p))).tdiv D) ∧ (∀ q, q < 192 → (∀ p, c < p → p < j → q ≠ 156 + (6 * k + p)) → W q = V q)) (fun v _ _ _ => n - v.toNatClampNeg) ?_ ⟨c + 1, V, by omega, by omega, rfl, h, fun p hp1 hp2 => absurd hp1 (by omega), fun _ _ _ => rfl⟩ (by omega)
  rintro kr v qn qm qd ⟨j, W, hcj, hj, rfl, hP, hd, ho⟩ ih
  refine ok_if (fun q => ?_) (fun q => ?_)
  · have e : j = n := by
      have := (nI_leI (by omega) (by omega)).mp q
      omega
    subst e
    exact hkk qn qm qd W hP hd ho
  · have hlt : j < n := by
      rcases Nat.lt_or_ge j n with q1 | q1
      · exact q1
      · exact absurd ((nI_leI (by omega) (by omega)).mpr q1) q
    have wkj : W (156 + (6 * k + j)) = V (156 + (6 * k + j)) := ho _ (by omega) (fun p _ _ => by omega)
    have wcc : W (156 + (6 * c + c)) = V (156 + (6 * c + c)) := ho _ (by omega) (fun p _ _ => by omega)
    have wkc : W (156 + (6 * k + c)) = V (156 + (6 * k + c)) := ho _ (by omega) (fun p _ _ => by omega)
    have wcj : W (156 + (6 * c + j)) = V (156 + (6 * c + j)) := ho _ (by omega) (fun p _ _ => by omega)
    have skj := hs k j hk hlt (by omega) (by omega)
    have scc := hs c c (by omega) (by omega) (by omega) (by omega)
    have skc := hs k c hk (by omega) (by omega) (by omega)
    have scj := hs c j (by omega) hlt (by omega) (by omega)
    rw [ix6, ix6, ix6, ix6]
    refine ok_in (vp_in_nI (by omega) (by decide)) (ok_nmr (156 + (6 * k + j)) (by rw [nI_clamp (by omega)]) ?_)
    refine ok_in (vp_in_nI (by omega) (by decide)) (ok_nmr (156 + (6 * c + c)) (by rw [nI_clamp (by omega)]) ?_)
    refine ok_p ⟨by omega, by omega, by omega⟩ ?_
    refine ok_b3 (xpr (p := 75) (q := 75) (hP (156 + (6 * k + j)) (by omega)) (hP (156 + (6 * c + c)) (by omega)) (by rw [wkj]; exact skj) (by rw [wcc]; exact scc) (by decide)) ?_
    intro a1 a2 a3 hu
    rw [wkj, wcc] at hu
    refine ok_nm (fun pn52 e1 => ok_nm (fun pm53 e2 => ok_nm (fun pd54 e3 => ?_)))
    have g1 : PO pn52 pm53 pd54 (vu W 192 (V (156 + (6 * k + j)) * V (156 + (6 * c + c)))) := by rw [e1, e2, e3]; exact hP.up hu
    clear e1 e2 e3 hu
    refine ok_in (vp_in_nI (by omega) (by decide)) (ok_nmr (156 + (6 * k + c)) (by rw [nI_clamp (by omega)]) ?_)
    refine ok_in (vp_in_nI (by omega) (by decide)) (ok_nmr (156 + (6 * c + j)) (by rw [nI_clamp (by omega)]) ?_)
    refine ok_p ⟨by omega, by omega, by omega⟩ ?_
    refine ok_b3 (xpr (p := 75) (q := 75) (g1 (156 + (6 * k + c)) (by omega)) (g1 (156 + (6 * c + j)) (by omega)) (by rw [vu_n (by omega), wkc]; exact skc) (by rw [vu_n (by omega), wcj]; exact scj) (by decide)) ?_
    intro b1 b2 b3 hu
    rw [vu_n (by omega), vu_n (by omega), wkc, wcj] at hu
    refine ok_nm (fun pn71 e1 => ok_nm (fun pm72 e2 => ok_nm (fun pd73 e3 => ?_)))
    have g2 : PO pn71 pm72 pd73 (vu (vu W 192 (V (156 + (6 * k + j)) * V (156 + (6 * c + c)))) 193 (V (156 + (6 * k + c)) * V (156 + (6 * c + j)))) := by rw [e1, e2, e3]; exact g1.up hu
    clear e1 e2 e3 hu g1
    generalize hA : V (156 + (6 * k + j)) * V (156 + (6 * c + c)) = A at *
    generalize hB : V (156 + (6 * k + c)) * V (156 + (6 * c + j)) = B at *
    have sA : sz A 150 := by rw [← hA]; exact sz_mul skj scc
    have sB : sz B 150 := by rw [← hB]; exact sz_mul skc scj
    refine ok_p ⟨by decide, by decide, by decide⟩ ?_
    have m2 : vu (vu W 192 A) 193 B 192 = A := by rw [vu_n (by decide), vu_s]
    have m3 : vu (vu W 192 A) 193 B 193 = B := by rw [vu_s]
    refine ok_b3 (xls (g2 192 (by decide)) (g2 193 (by decide)) (by rw [m2]; exact sz_mono sA (by decide)) (by rw [m3]; exact sz_mono sB (by decide))) ?_
    intro c1 c2 c3 hu
    rw [m2, m3] at hu
    have sAB : sz (A - B) 151 := sz_sub sA sB
    refine ok_nm (fun pn90 e1 => ok_nm (fun pm91 e2 => ok_nm (fun pd92 e3 => ?_)))
    have g3 : PO pn90 pm91 pd92 (vu (vu (vu W 192 A) 193 B) 194 (A - B)) := by rw [e1, e2, e3]; exact g2.up hu
    clear e1 e2 e3 hu g2
    refine ok_jn (fun k383 => ∀ (rn rm : Nat → Int32) (rd : Nat → Nat → Int32) (X : Nat → Int), PO rn rm rd X → X (156 + (6 * k + j)) = (A - B).tdiv D → (∀ q, q < 192 → q ≠ 156 + (6 * k + j) → X q = W q) → ok (k383 rn rm rd) Q) ?_ ?_
    · intro rn rm rd X hX h1 h2
      refine ok_nm (fun v' hv' => ?_)
      subst hv'
      rw [nI_1]
      refine ih _ _ _ _ ⟨j + 1, X, by omega, hlt, rfl, hX, ?_, ?_⟩ (by rw [nI_clamp (by omega), nI_clamp (by omega)]; omega)
      · intro p hp1 hp2
        by_cases q3 : p = j
        · subst q3; rw [h1, hA, hB]
        · rw [h2 _ (by omega) (by omega)]; exact hd p hp1 (by omega)
      · intro q hq1 hq2
        rw [h2 q hq1 (hq2 j hcj (by omega))]
        exact ho q hq1 (fun p hp1 hp2 => hq2 p hp1 (by omega))
    · intro k383 hC
      refine ok_if (fun q2 => ?_) (fun q2 => ?_)
      · have c0 : c = 0 := (nI_le0 (by omega)).mp q2
        refine ok_in (vp_in_nI (by omega) (by decide)) (ok_nmr (156 + (6 * k + j)) (by rw [nI_clamp (by omega)]) ?_)
        refine ok_p (by omega) ?_
        refine ok_b3 (xcp (g3 194 (by decide)) (by rw [vu_s]; exact sz_mono sAB (by decide))) ?_
        intro d1 d2 d3 hu
        rw [vu_s] at hu
        refine ok_nm (fun pn11 e1 => ok_nm (fun pm11 e2 => ok_nm (fun pd11 e3 => ?_)))
        have g4 : PO pn11 pm11 pd11 (vu (vu (vu (vu W 192 A) 193 B) 194 (A - B)) (156 + (6 * k + j)) (A - B)) := by rw [e1, e2, e3]; exact g3.up hu
        refine hC _ _ _ _ g4 ?_ ?_
        · rw [vu_s, hD0 c0, Int.tdiv_one]
        · intro q hq1 hq2
          rw [vu_n hq2, vu_n (by omega), vu_n (by omega), vu_n (by omega)]
      · have c1 : 1 ≤ c := by
          rcases Nat.eq_zero_or_pos c with q3 | q3
          · exact absurd ((nI_le0 (by omega)).mpr q3) q2
          · exact q3
        have wD : W (156 + (6 * (c - 1) + (c - 1))) = D := by rw [ho _ (by omega) (fun p _ _ => by omega)]; exact hD1 c1
        rw [ix6p c1]
        refine ok_in (vp_in_nI (by omega) (by decide)) (ok_nmr (156 + (6 * (c - 1) + (c - 1))) (by rw [nI_clamp (by omega)]) ?_)
        refine ok_p ⟨by decide, by omega, by decide, by omega, by decide, by omega⟩ ?_
        have m4 : vu (vu (vu W 192 A) 193 B) 194 (A - B) (156 + (6 * (c - 1) + (c - 1))) = D := by rw [vu_n (by omega), vu_n (by omega), vu_n (by omega), wD]
        refine ok_b6 (xqt (g3 194 (by decide)) (g3 (156 + (6 * (c - 1) + (c - 1))) (by omega)) (by rw [vu_s]; exact sz_mono sAB (by decide)) (by rw [m4]; exact sz_mono hDs (by decide)) (by rw [m4]; exact hD)) ?_
        rintro d1 d2 d3 d4 d5 d6 ⟨hu1, hu2⟩
        rw [vu_s, m4] at hu1 hu2
        refine ok_nm (fun pn11 e1 => ok_nm (fun pm11 e2 => ok_nm (fun pd11 e3 => ?_)))
        have g4 := (g3.up (k := 192) hu1).up (k := 193) hu2
        rw [← e1, ← e2, ← e3] at g4
        refine ok_in (vp_in_nI (by omega) (by decide)) (ok_nmr (156 + (6 * k + j)) (by rw [nI_clamp (by omega)]) ?_)
        refine ok_p (by omega) ?_
        refine ok_b3 (xcp (g4 192 (by decide)) (by rw [vu_n (by decide), vu_s]; exact sz_mono (tdiv_szI sAB) (by decide))) ?_
        intro f1 f2 f3 hu
        rw [vu_n (by decide), vu_s] at hu
        refine ok_nm (fun pn12 e4 => ok_nm (fun pm12 e5 => ok_nm (fun pd12 e6 => ?_)))
        have g5 := g4.up (k := 156 + (6 * k + j)) hu
        rw [← e4, ← e5, ← e6] at g5
        refine hC _ _ _ _ g5 ?_ ?_
        · rw [vu_s]
        · intro q hq1 hq2
          rw [vu_n hq2, vu_n (by omega), vu_n (by omega), vu_n (by omega), vu_n (by omega), vu_n (by omega)]
