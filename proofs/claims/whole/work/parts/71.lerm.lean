/-- the pool between calls -/
def PI (pn pm : Nat → Int32) (pd : Nat → Nat → Int32) : Prop := ∃ V, PO pn pm pd V ∧ ∀ q, q < 192 → sz (V q) 150
/-- what learn leaves of table t -/
def Lr (m N rows t : Nat) (A : Nat → Nat → Int) (os : Nat → Nat) (R : Nat) (cv : Nat → Int32) (rk sg : Nat → Int32) : Prop :=
  (∃ pv E, RT m N rows A R pv E ∧ cv = cvR m N R E) ∧ (∀ S, S < 2 ^ N → sg (4096 * t + S) = if m = 0 then cv S * fs N os cv 4096 else cv S) ∧ ∃ ρ : Nat → Nat, ∀ S, S < 2 ^ N → rk (4096 * t + S) = nI (ρ S) ∧ IsRk N cv S (ρ S)
theorem is_t {t : Nat} (ht : t < 4) : ok (f_R_isTable (nI t)) (fun r => r = 1) := by
  have : ∀ t : Fin 4, f_R_isTable (nI t.val) = some 1 := by decide
  exact ⟨1, this ⟨t, ht⟩, rfl⟩
theorem ln_okQ {Q : (Int32 × Int32 × Int32 × Int32 × (Nat → Int32) × (Nat → Int32) × (Nat → Int32) × (Nat → Int32) × (Nat → Int32) × (Nat → Int32) × (Nat → Int32) × (Nat → Int32) × (Nat → Int32) × (Nat → Int32) × (Nat → Int32) × (Nat → Nat → Int32)) → Prop} {rows0 cols0 prime0 : Int32} {small0 pvs0 fr0 fc0 sm0 flds rcs els nb kn rks rk0 sg0 ord szs pn pm : Nat → Int32} {pd : Nat → Nat → Int32} {os : Nat → Nat} {m N rows t : Nat} (hm : FdP m) (hN : N ≤ 12) (hr : rows ≤ 12) (ht : t < 4) (hf : flds t = nI m) (hrc : rcs t = nI rows) (hel : els t = nI N) (hkn : kn t = 0) (hnb : ∀ i j, i < rows → j < N → -999 ≤ Nb nb t i j ∧ Nb nb t i j ≤ 999) (hord : ∀ k, k < 4096 → ord k = nI (os k) ∧ os k < 4096) (hsur : ∀ S, S < 4096 → ∃ k, k < 4096 ∧ os k = S) (hsz : ∀ S, S < 4096 → szs S = nI (cn S)) (hP : PI pn pm pd)
    (hQ : ∀ (x1 x2 x3 : Int32) (x4 x5 x6 x7 x8 rk sg qn qm : Nat → Int32) (qd : Nat → Nat → Int32) (R : Nat) (cv : Nat → Int32), Lr m N rows t (Nb nb t) os R cv rk sg → (∀ q, (∀ S, S < 2 ^ N → q ≠ 4096 * t + S) → sg q = sg0 q) → (∀ q, (∀ S, S < 2 ^ N → q ≠ 4096 * t + S) → rk q = rk0 q) → PI qn qm qd → Q (1, x1, x2, x3, x4, x5, x6, x7, x8, upd kn t 1, upd rks t (nI R), rk, sg, qn, qm, qd)) :
    ok (f_R_learn rows0 cols0 prime0 small0 pvs0 fr0 fc0 sm0 flds rcs els nb kn rks rk0 sg0 ord szs pn pm pd (nI t)) Q := by
  have hM := p2_12 hN
  obtain ⟨V, hV, hVs⟩ := hP
  have hm31 : m < 2 ^ 31 := by
    rcases hm with q | q
    · omega
    · have := (pr_le m q).2; omega
  unfold f_R_learn
  refine ok_b1 (is_t ht) ?_
  rintro r1 rfl
  refine ok_if (fun q => absurd q (by decide)) (fun _ => ?_)
  refine ok_in (vp_in_nI ht (by decide)) ?_
  rw [nI_clamp (by omega), hkn]
  refine ok_if (fun _ => ?_) (fun q => absurd rfl q)
  refine ok_in (vp_in_nI ht (by decide)) (ok_in (vp_in_nI ht (by decide)) ?_)
  rw [hf, hel, hrc]
  refine ok_b3 (Q1 := fun r => r = (nI m, nI N, 0)) ⟨_, rfl, rfl⟩ ?_
  intro u8 u9 u10 hu
  have hu1 := (Prod.mk.inj hu).1
  have hu2 := (Prod.mk.inj (Prod.mk.inj hu).2).1
  subst hu1
  subst hu2
  refine ok_in (vp_in_nI ht (by decide)) ?_
  by_cases m0 : m = 0
  · subst m0
    refine ok_jn (fun k100 => ∀ (qn qm : Nat → Int32) (qd : Nat → Nat → Int32) (W : Nat → Int), PO qn qm qd W → (∀ i j, i < rows → j < N → W (12 * i + j) = Nb nb t i j) → (∀ q, (∀ i j, i < rows → j < N → q ≠ 12 * i + j) → W q = V q) → ok (k100 small0 qn qm qd) Q) ?_ (fun k100 h100 => la0_ok hV ht hr hN hnb h100)
    intro qn qm qd W hW w1 w2
    have hWs : ∀ q, q < 192 → sz (W q) 150 := by
      intro q hq
      by_cases qq : ∃ i j, i < rows ∧ j < N ∧ q = 12 * i + j
      · obtain ⟨i, j, i1, j1, rfl⟩ := qq
        rw [w1 i j i1 j1]
        have := hnb i j i1 j1
        refine sz_mono (b := 1) ?_ (by decide)
        unfold sz
        omega
      · rw [w2 q (fun i j i1 j1 e => qq ⟨i, j, i1, j1, e⟩)]; exact hVs q hq
    -- what reduce leaves
    have key : ∀ (sm' pvs' rn rm : Nat → Int32) (rd : Nat → Nat → Int32) (R : Nat) (pv : Nat → Nat) (V' : Nat → Int), (∀ i, i < R → pvs' i = nI (pv i)) → PO rn rm rd V' → RT 0 N rows (Nb nb t) R pv (fun i j => V' (12 * i + j)) → (∀ i, i < R → 0 < V' (12 * i + pv i)) → (∀ i j, i < R → j < N → sz (V' (12 * i + j)) 14) → (∀ q, q < 192 → sz (V' q) 150) →
        ok (ck_in (nI t) 4 <| ck_b8 (f_R_measure (nI R) (nI N) (nI 0) sm' pvs' fr0 fc0 sm0 rk0 sg0 ord szs rn rm rd (nI t)) <| fun u_25 u_26 u_27 u_28 u_29 u_30 u_31 u_32 => ck_in (nI t) 4 <| some (1, nI R, nI N, nI 0, sm', pvs', u_25, u_26, u_27, (upd kn t (vp_nar .boolean 1)), (upd rks t (nI R)), u_28, u_29, u_30, u_31, u_32)) Q := by
      intro sm' pvs' rn rm rd R pv V' g1 g2 g3 g4 g5 g6
      have hRN := RT_le g3
      obtain ⟨pp1, pp2, pp3⟩ := RT_P hm hN g3
      refine ok_in (vp_in_nI ht (by decide)) ?_
      refine ok_b8 (me_okQ (Q := fun r => Lr 0 N rows t (Nb nb t) os R (cvR 0 N R (fun i j => V' (12 * i + j))) r.2.2.2.1 r.2.2.2.2.1 ∧ (∀ q, (∀ S, S < 2 ^ N → q ≠ 4096 * t + S) → r.2.2.2.2.1 q = sg0 q) ∧ (∀ q, (∀ S, S < 2 ^ N → q ≠ 4096 * t + S) → r.2.2.2.1 q = rk0 q) ∧ PI r.2.2.2.2.2.1 r.2.2.2.2.2.2.1 r.2.2.2.2.2.2.2) (I := fun pn pm pd => ∃ V2, PO pn pm pd V2 ∧ (∀ q, q < 156 → V2 q = V' q) ∧ ∀ q, 156 ≤ q → q < 192 → sz (V2 q) 150) (cv := cvR 0 N R (fun i j => V' (12 * i + j))) (os := os) (R := R) hN (by omega) ht (by decide) hord hsur hsz ⟨V', g2, fun _ _ => rfl, fun q _ hq => g6 q hq⟩ ?_ cvR_tv (fun S hS => cvR_0 hS) ⟨_, pp1, (cvR_ne pp1 pp2).mpr pp3⟩ ?_) ?_
      · rintro fr fc sm pn' pm' pd' S ⟨V2, v1, v2, v3⟩ hS hcS
        refine mo_okQ (V := V2) (pv := pv) v1 hN (by omega) hS (by rw [cn_N hS hN]; exact hcS) (fun i hi => ⟨g1 i hi, g3.2.1 i hi⟩) g3.2.2.1 (fun i j hi hj hij => by rw [v2 _ (by have := g3.2.1 j hj; have := g3.1; omega)]; exact g3.2.2.2.1 i j hi hj hij) (fun i hi => by rw [v2 _ (by have := g3.2.1 i hi; have := g3.1; omega)]; exact g4 i hi) (fun i hi e he => by rw [v2 _ (by have := g3.1; omega)]; exact g5 i e hi he) v3 ?_
        intro r r1 r2
        refine ⟨?_, ?_⟩
        · rw [r1]
          unfold cvR
          rw [if_pos ⟨hS, hcS⟩, if_pos rfl]
          congr 2
          have hcg : ∀ r, r ≤ R → ∀ T, wl N (ol (fun i e => V2 (12 * i + e)) r) T = wl N (ol (fun i e => V' (12 * i + e)) r) T := by
            intro r
            induction r with
            | zero => intro _ T; rfl
            | succ r ih =>
              intro hr T
              show wd N _ (wl N (ol (fun i e => V2 (12 * i + e)) r)) T = wd N _ (wl N (ol (fun i e => V' (12 * i + e)) r)) T
              rw [wd_cw (ih (by omega)), wd_cg (fun e he => v2 _ (by have := g3.1; omega))]
          exact hcg R (Nat.le_refl R) S
        · obtain ⟨V3, a1, a2, a3⟩ := r2
          exact ⟨V3, a1, fun q hq => by rw [a2 q hq, v2 q hq], a3⟩
      · rintro fr fc sm rk sg qn' qm' qd' a1 a2 ⟨ρ, a3⟩ a4 ⟨V2, a5, a6, a7⟩
        refine ⟨⟨⟨pv, _, g3, rfl⟩, a1, ρ, a3⟩, a2, a4, V2, a5, fun q hq => ?_⟩
        rcases Nat.lt_or_ge q 156 with q1 | q1
        · rw [a6 q q1]; exact g6 q hq
        · exact a7 q q1 hq
      · rintro u25 u26 u27 u28 u29 u30 u31 u32 ⟨b1, b2, b3, b4⟩
        dsimp only at b1 b2 b3 b4
        refine ok_in (vp_in_nI ht (by decide)) ?_
        exact ok_some (hQ _ _ _ _ _ _ _ _ _ _ _ _ _ R _ b1 b2 b3 b4)
    by_cases hN0 : N = 0
    · subst hN0
      refine ok_b6 (rd_0 (Q := fun r => r = (small0, nI 0, pvs0, qn, qm, qd)) rfl) ?_
      intro u17 u18 u19 u20 u21 u22 hu
      have e1 := Prod.mk.inj hu
      have e2 := Prod.mk.inj e1.2
      have e3 := Prod.mk.inj e2.2
      have e4 := Prod.mk.inj e3.2
      have e5 := Prod.mk.inj e4.2
      rw [e1.1, e2.1, e3.1, e4.1, e5.1, e5.2]
      refine key _ _ _ _ _ 0 (fun _ => 0) W (fun i hi => absurd hi (by omega)) hW ⟨by omega, fun i hi => absurd hi (by omega), fun i j _ hj => absurd hj (by omega), fun i j hi => absurd hi (by omega), fun i hi => absurd hi (by omega), fun w => ?_⟩ (fun i hi => absurd hi (by omega)) (fun i j hi => absurd hi (by omega)) hWs
      constructor
      · intro _ i _ S
        show ((0 : Nat) : Int) ∣ sm 0 _
        exact Int.dvd_zero _
      · intro _ i hi; exact absurd hi (by omega)
    · refine ok_b6 (rd_okQ (C := 999) (Q := fun t' => ∃ (R : Nat) (pv : Nat → Nat) (V' : Nat → Int), t'.2.1 = nI R ∧ (∀ i, i < R → t'.2.2.1 i = nI (pv i)) ∧ PO t'.2.2.2.1 t'.2.2.2.2.1 t'.2.2.2.2.2 V' ∧ Rd N rows R pv (fun i j => W (12 * i + j)) V' ∧ (∀ q, q < 192 → (∀ i j, i < rows → j < N → q ≠ 12 * i + j) → V' q = W q) ∧ ∀ i j, i < rows → j < N → sz (V' (12 * i + j)) 14) hW hr hN (by omega) (by omega) (fun k hk e he => by rw [w1 k e hk he]; have := hnb k e hk he; omega) (fun _ h => h)) ?_
      rintro u17 u18 u19 u20 u21 u22 ⟨R, pv, V', b1, b2, b3, b4, b5, b6⟩
      dsimp only at b1 b2 b3
      subst b1
      obtain ⟨c1, c2, c3, c4, c5, c6, c7, c8⟩ := b4
      refine key u17 u19 u20 u21 u22 R pv V' b2 b3 ⟨c1, c2, c3, c4, fun i hi hd => ?_, fun w => ?_⟩ c5 c7 (fun q hq => ?_)
      · have h5 := c5 i hi
        have h6 : V' (12 * i + pv i) = 0 := z_dvd.mp hd
        omega
      · rw [c8 w]
        exact kill_cg (fun i j hi hj => by rw [w1 i j hi hj, Int.sub_self]; exact Int.dvd_zero _)
      · by_cases qq : ∃ i j, i < rows ∧ j < N ∧ q = 12 * i + j
        · obtain ⟨i, j, i1, j1, rfl⟩ := qq
          exact sz_mono (b6 i j i1 j1) (by decide)
        · rw [b5 q hq (fun i j i1 j1 e => qq ⟨i, j, i1, j1, e⟩)]; exact hWs q hq
  · have hp : m ∈ PR := by
      rcases hm with q | q
      · exact absurd q m0
      · exact q
    obtain ⟨p0, p1⟩ := pr_le m hp
    refine ok_jn (fun k100 => ∀ s : Nat → Int32, Pe m N rows s → (∀ i j, i < rows → j < N → (m : Int) ∣ (ev s (12 * i + j) : Int) - Nb nb t i j) → ok (k100 s pn pm pd) Q) ?_ (fun k100 h100 => lap_ok hp ht hr hN hnb h100)
    intro s hs1 hs2
    refine ok_b6 (rdp_okQ (Q := fun t' => ∃ (R : Nat) (pv : Nat → Nat) (V' : Nat → Int), t'.2.1 = nI R ∧ (∀ i, i < R → t'.2.2.1 i = nI (pv i)) ∧ PO t'.2.2.2.1 t'.2.2.2.2.1 t'.2.2.2.2.2 V' ∧ (∀ q, q < 192 → sz (V' q) 150) ∧ Pe m N rows t'.1 ∧ Rq m N rows R pv (fun i j => (ev s (12 * i + j) : Int)) (ev t'.1)) hp hV hVs hr hN hs1 (fun _ h => h)) ?_
    rintro u17 u18 u19 u20 u21 u22 ⟨R, pv, V', b1, b2, b3, b4, b5, b6⟩
    dsimp only at b1 b2 b3 b5 b6
    subst b1
    obtain ⟨c1, c2, c3, c4, c5, c6⟩ := b6
    have g3 : RT m N rows (Nb nb t) R pv (fun i j => (ev u17 (12 * i + j) : Int)) := by
      refine ⟨c1, c2, c3, fun i j hi hj hij => ?_, fun i hi hd => ?_, fun w => ?_⟩
      · show (ev u17 (12 * i + pv j) : Int) = 0
        rw [c4 i j hi hj hij]; rfl
      · have hd' : (m : Int) ∣ (ev u17 (12 * i + pv i) : Int) := hd
        rw [c5 i hi] at hd'
        have := Int.le_of_dvd (by decide) hd'
        omega
      · rw [c6 w]; exact kill_cg hs2
    have hRN := RT_le g3
    obtain ⟨pp1, pp2, pp3⟩ := RT_P hm hN g3
    refine ok_in (vp_in_nI ht (by decide)) ?_
    refine ok_b8 (me_okQ (Q := fun r => Lr m N rows t (Nb nb t) os R (cvR m N R (fun i j => (ev u17 (12 * i + j) : Int))) r.2.2.2.1 r.2.2.2.2.1 ∧ (∀ q, (∀ S, S < 2 ^ N → q ≠ 4096 * t + S) → r.2.2.2.2.1 q = sg0 q) ∧ (∀ q, (∀ S, S < 2 ^ N → q ≠ 4096 * t + S) → r.2.2.2.1 q = rk0 q) ∧ PI r.2.2.2.2.2.1 r.2.2.2.2.2.2.1 r.2.2.2.2.2.2.2) (I := fun pn pm pd => pn = u20 ∧ pm = u21 ∧ pd = u22) (cv := cvR m N R (fun i j => (ev u17 (12 * i + j) : Int))) (os := os) (R := R) hN (by omega) ht hm31 hord hsur hsz ⟨rfl, rfl, rfl⟩ ?_ cvR_tv (fun S hS => cvR_0 hS) ⟨_, pp1, (cvR_ne pp1 pp2).mpr pp3⟩ ?_) ?_
    · rintro fr fc sm pn' pm' pd' S ⟨rfl, rfl, rfl⟩ hS hcS
      refine mop_okQ (pv := pv) hp hN (by omega) hS (by rw [cn_N hS hN]; exact hcS) (fun i hi => ⟨b2 i hi, c2 i hi⟩) c3 c4 c5 (fun i hi e he => b5 i (by omega) e he) ?_
      intro r r1 r2 r3 r4
      refine ⟨?_, r2, r3, r4⟩
      unfold cvR
      rw [if_pos ⟨hS, hcS⟩, if_neg m0]
      rcases r1 with ⟨r1, r5⟩ | ⟨r1, r5⟩
      · rw [r1, if_neg r5]
      · rw [r1, if_pos r5]
    · rintro fr fc sm rk sg qn' qm' qd' a1 a2 ⟨ρ, a3⟩ a4 ⟨rfl, rfl, rfl⟩
      exact ⟨⟨⟨pv, _, g3, rfl⟩, a1, ρ, a3⟩, a2, a4, V', b3, b4⟩
    · rintro u25 u26 u27 u28 u29 u30 u31 u32 ⟨d1, d2, d3, d4⟩
      dsimp only at d1 d2 d3 d4
      refine ok_in (vp_in_nI ht (by decide)) ?_
      exact ok_some (hQ _ _ _ _ _ _ _ _ _ _ _ _ _ R _ d1 d2 d3 d4)
