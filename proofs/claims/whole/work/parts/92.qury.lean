/-! the questions: both answer alike -/
abbrev R15 : Type := Int32 × Int32 × Int32 × (Nat → Int32) × (Nat → Int32) × (Nat → Int32) × (Nat → Int32) × (Nat → Int32) × (Nat → Int32) × (Nat → Int32) × (Nat → Int32) × (Nat → Int32) × (Nat → Int32) × (Nat → Int32) × (Nat → Nat → Int32)
abbrev r_kn (r : R15) : Nat → Int32 := r.2.2.2.2.2.2.2.2.1
abbrev r_rks (r : R15) : Nat → Int32 := r.2.2.2.2.2.2.2.2.2.1
abbrev r_rk (r : R15) : Nat → Int32 := r.2.2.2.2.2.2.2.2.2.2.1
abbrev r_sg (r : R15) : Nat → Int32 := r.2.2.2.2.2.2.2.2.2.2.2.1
/-- the reference behind a question about table t -/
def RAf (m N rows t : Nat) (nb kn rks rk0 sg0 : Nat → Int32) (r : R15) : Prop := (∃ R cv, Lr m N rows t (Nb nb t) osR R cv (r_rk r) (r_sg r) ∧ r_rks r t = nI R) ∧ r_kn r t = 1 ∧ (∀ t', t' ≠ t → r_kn r t' = kn t' ∧ r_rks r t' = rks t') ∧ (∀ q, (∀ S, S < 2 ^ N → q ≠ 4096 * t + S) → r_rk r q = rk0 q ∧ r_sg r q = sg0 q) ∧ PI r.2.2.2.2.2.2.2.2.2.2.2.2.1 r.2.2.2.2.2.2.2.2.2.2.2.2.2.1 r.2.2.2.2.2.2.2.2.2.2.2.2.2.2
theorem tav_ok {t : Nat} (ht : t < 4) : ok (f_B_tableAtV 4 (nI t)) (fun _ => True) := by
  unfold f_B_tableAtV
  refine ok_if (fun q => absurd q (nI_pos (by omega))) (fun _ => ok_if (fun _ => ?_) (fun q => absurd ((nI_ltI (b := 4) (by omega) (by omega)).mpr ht) q))
  exact ok_in (vp_in_nI ht (by decide)) (ok_some trivial)
theorem hs_ok {N : Nat} (hN : N ≤ 12) (x : Int32) : (∃ S, S < 2 ^ N ∧ x = nI S ∧ f_T_hasSet (nI N) x = some 1) ∨ (f_T_hasSet (nI N) x = some 0 ∧ (x < 0 ∨ (¬ x < 0 ∧ nI (2 ^ N - 1) < x))) := by
  have hM := p2_12 hN
  have hP := Nat.two_pow_pos N
  unfold f_T_hasSet ck_if
  rw [nI_31 (by omega), nI_shl (by omega)]
  by_cases q : x < 0
  · rw [if_pos q]; exact Or.inr ⟨rfl, Or.inl q⟩
  · rw [if_neg q]
    obtain ⟨S, hS, rfl⟩ := nI_of q
    by_cases q2 : nI (2 ^ N) ≤ nI S
    · rw [if_pos q2]
      have := (nI_leI (by omega) hS).mp q2
      exact Or.inr ⟨rfl, Or.inr ⟨q, (nI_ltI (by omega) hS).mpr (by omega)⟩⟩
    · rw [if_neg q2]
      have : ¬ 2 ^ N ≤ S := fun h => q2 ((nI_leI (by omega) hS).mpr h)
      exact Or.inl ⟨S, by omega, rfl, rfl⟩
theorem kd_ok (x : Int32) : (∃ k, k < 4 ∧ x = nI k ∧ f_isKind x = some 1) ∨ (f_isKind x = some 0 ∧ (x < 0 ∨ (¬ x < 0 ∧ 3 < x))) := by
  unfold f_isKind ck_if
  by_cases q : x < 0
  · rw [if_pos q]; exact Or.inr ⟨rfl, Or.inl q⟩
  · rw [if_neg q]
    obtain ⟨S, hS, rfl⟩ := nI_of q
    by_cases q2 : 4 ≤ nI S
    · rw [if_pos q2]
      have := (nI_leI (a := 4) (by omega) hS).mp q2
      exact Or.inr ⟨rfl, Or.inr ⟨q, (nI_ltI (a := 3) (by omega) hS).mpr (by omega)⟩⟩
    · rw [if_neg q2]
      have : ¬ 4 ≤ S := fun h => q2 ((nI_leI (a := 4) (by omega) hS).mpr h)
      exact Or.inl ⟨S, by omega, rfl, rfl⟩
section Ask
variable {rows0 cols0 prime0 : Int32} {small0 pvs0 fr0 fc0 sm0 flds rcs els nb kn rks rk0 sg0 ord szs pn pm num so0 : Nat → Int32} {cf0 cc0 : Nat → Int64} {pd : Nat → Nat → Int32} {m N rows t : Nat} {c : C15}
theorem q_rank (hm : FdP m) (hN : N ≤ 12) (hr : rows ≤ 12) (ht : t < 4) (hR : RT1 t flds rcs els nb kn rks rk0 sg0 m N rows) (hord : ∀ k, k < 4096 → ord k = nI (osR k)) (hsz : ∀ S, S < 4096 → szs S = nI (cn S)) (hP : PI pn pm pd) (hA : CNm m N rows (Nb nb t) num) (hc : CSs m N rows num c) (x : Int32) :
    ok (f_B_rankV 4 c.1 4096 c.2.1 14 c.2.2.1 13 c.2.2.2.1 4096 c.2.2.2.2.1 4096 c.2.2.2.2.2.1 4096 c.2.2.2.2.2.2.1 (nI m) (nI rows) (nI N) (c_std c) 144 num (c_scc c) (c_sfr c) 4096 (c_rk c) 4096 (c_sg c) 6868 (c_mem c) 5 (c_sst c) 169 (c_df c) (nI t) x) (fun a => ok (f_R_rank rows0 cols0 prime0 small0 pvs0 fr0 fc0 sm0 flds rcs els nb kn rks rk0 sg0 ord szs pn pm pd (nI t) x) (fun b => a.1 = b.1 ∧ CSs m N rows num a.2 ∧ RAf m N rows t nb kn rks rk0 sg0 b.2)) := by
  have hM := p2_12 hN
  have hel := hR.2.2.1
  unfold f_B_rankV
  refine ok_b0 (tav_ok ht) ?_
  rcases hs_ok hN x with ⟨S, s1, rfl, s2⟩ | ⟨s2, s3⟩
  · refine ok_b1 (Q1 := fun r => r = 1) ⟨1, s2, rfl⟩ ?_
    rintro r2 rfl
    refine ok_if (fun q => absurd q (by decide)) (fun _ => ?_)
    refine ok_b15 (sof_ok hm hN hr hA hc) ?_
    rintro u1 u2 u3 u4 u5 u6 u7 u8 u9 u10 u11 u12 u13 u14 u15 ⟨d1, d2, d3⟩
    refine ok_in (vp_in_nI (by omega) (by decide)) ?_
    rw [nI_clamp (by omega)]
    refine ok_some ?_
    unfold f_R_rank
    refine ok_b16 (lrn_ok hm hN hr ht hR hord hsz hP) ?_
    rintro v1 v2 v3 v4 v5 v6 v7 v8 v9 v10 v11 v12 v13 v14 v15 v16 ⟨e1, e2⟩
    dsimp only at e1 e2
    subst e1
    obtain ⟨R, cv, os, ρ, l1, l2, l3⟩ := d3
    have hL := l1
    obtain ⟨Rr, cr, g1, g2⟩ := e2.1
    obtain ⟨b1, b2, b3, b4⟩ := same hm hN (fun i j hi hj => (hA i j hi hj).2.2) osR_Od hL g1
    refine ok_if (fun q => absurd q (by decide)) (fun _ => ok_if (fun q => absurd q (nI_pos (by omega))) (fun _ => ?_))
    refine ok_b1 (wh_ok hN ht hel) ?_
    rintro r20 rfl
    refine ok_if (fun q => absurd ((nI_ltI (by omega) (by omega)).mp q) (by omega)) (fun _ => ?_)
    refine ok_b1 (rr_ok hN ht s1 b2) ?_
    rintro r23 rfl
    refine ok_some ⟨?_, ⟨d1, Or.inr ⟨d2, R, cv, os, ρ, l1, l2, l3⟩⟩, e2⟩
    exact (hL.2.2.1 S s1).1
  · refine ok_b1 (Q1 := fun r => r = 0) ⟨0, s2, rfl⟩ ?_
    rintro r2 rfl
    refine ok_if (fun _ => ok_some ?_) (fun q => absurd rfl q)
    unfold f_R_rank
    refine ok_b16 (lrn_ok hm hN hr ht hR hord hsz hP) ?_
    rintro v1 v2 v3 v4 v5 v6 v7 v8 v9 v10 v11 v12 v13 v14 v15 v16 ⟨e1, e2⟩
    dsimp only at e1 e2
    subst e1
    refine ok_if (fun q => absurd q (by decide)) (fun _ => ok_if (fun _ => ok_some ⟨rfl, hc, e2⟩) (fun q => ?_))
    refine ok_b1 (wh_ok hN ht hel) ?_
    rintro r20 rfl
    refine ok_if (fun _ => ok_some ⟨rfl, hc, e2⟩) (fun q2 => ?_)
    rcases s3 with s3 | ⟨-, s3⟩
    · exact absurd s3 q
    · exact absurd s3 q2
theorem q_count (hm : FdP m) (hN : N ≤ 12) (hr : rows ≤ 12) (ht : t < 4) (hR : RT1 t flds rcs els nb kn rks rk0 sg0 m N rows) (hord : ∀ k, k < 4096 → ord k = nI (osR k)) (hsz : ∀ S, S < 4096 → szs S = nI (cn S)) (hP : PI pn pm pd) (hA : CNm m N rows (Nb nb t) num) (hc : CSs m N rows num c) (x : Int32) :
    ok (f_B_countV 4 c.1 4096 c.2.1 14 c.2.2.1 13 c.2.2.2.1 4096 c.2.2.2.2.1 4096 c.2.2.2.2.2.1 4096 c.2.2.2.2.2.2.1 (nI m) (nI rows) (nI N) (c_std c) 144 num (c_scc c) (c_sfr c) 4096 (c_rk c) 4096 (c_sg c) 6868 (c_mem c) 5 (c_sst c) 169 (c_df c) (nI t) x) (fun a => ok (f_R_count rows0 cols0 prime0 small0 pvs0 fr0 fc0 sm0 flds rcs els nb kn rks rk0 sg0 ord szs pn pm pd (nI t) x) (fun b => a.1 = b.1 ∧ CSs m N rows num a.2 ∧ RAf m N rows t nb kn rks rk0 sg0 b.2)) := by
  have hM := p2_12 hN
  have hel := hR.2.2.1
  unfold f_B_countV
  refine ok_b0 (tav_ok ht) ?_
  rcases kd_ok x with ⟨k, s1, rfl, s2⟩ | ⟨s2, s3⟩
  · refine ok_b1 (Q1 := fun r => r = 1) ⟨1, s2, rfl⟩ ?_
    rintro r2 rfl
    refine ok_if (fun q => absurd q (by decide)) (fun _ => ?_)
    refine ok_b15 (sof_ok hm hN hr hA hc) ?_
    rintro u1 u2 u3 u4 u5 u6 u7 u8 u9 u10 u11 u12 u13 u14 u15 ⟨d1, d2, R, cv, os, ρ, l1, l2, l3⟩
    refine ok_b1 (chm_ok (F := fun k a => Kb N R ρ k (os a)) s1 l1.2.2.2.2.1) ?_
    rintro r21 rfl
    refine ok_some ?_
    unfold f_R_count
    refine ok_b16 (lrn_ok hm hN hr ht hR hord hsz hP) ?_
    rintro v1 v2 v3 v4 v5 v6 v7 v8 v9 v10 v11 v12 v13 v14 v15 v16 ⟨e1, e2⟩
    dsimp only at e1 e2
    subst e1
    obtain ⟨Rr, cr, g1, g2⟩ := e2.1
    obtain ⟨b1, b2, b3, b4⟩ := same hm hN (fun i j hi hj => (hA i j hi hj).2.2) osR_Od l1 g1
    subst b1
    have hRF := l1.2.2.2.2.2.2.2.2.1
    have hRN := l1.2.2.2.2.2.2.2.2.2
    refine ok_if (fun q => absurd q (by decide)) (fun _ => ok_if (fun q => absurd q (nI_pos (by omega))) (fun _ => ok_if (fun q => absurd ((nI_ltI (a := 3) (by omega) (by omega)).mp q) (by omega)) (fun _ => ?_)))
    refine ok_b1 (rhm_ok hN hRN ht s1 b2 hsz g2 hel hRF) ?_
    rintro r21 rfl
    refine ok_some ⟨?_, ⟨d1, Or.inr ⟨d2, R, cv, os, ρ, l1, l2, l3⟩⟩, e2⟩
    show nI _ = nI _
    rw [cnt_perm (P := Kb N R ρ k) l1.2.1.1 (Od_inj l1.2.1)]
  · refine ok_b1 (Q1 := fun r => r = 0) ⟨0, s2, rfl⟩ ?_
    rintro r2 rfl
    refine ok_if (fun _ => ok_some ?_) (fun q => absurd rfl q)
    unfold f_R_count
    refine ok_b16 (lrn_ok hm hN hr ht hR hord hsz hP) ?_
    rintro v1 v2 v3 v4 v5 v6 v7 v8 v9 v10 v11 v12 v13 v14 v15 v16 ⟨e1, e2⟩
    dsimp only at e1 e2
    subst e1
    refine ok_if (fun q => absurd q (by decide)) (fun _ => ok_if (fun _ => ok_some ⟨rfl, hc, e2⟩) (fun q => ok_if (fun _ => ok_some ⟨rfl, hc, e2⟩) (fun q2 => ?_)))
    rcases s3 with s3 | ⟨-, s3⟩
    · exact absurd s3 q
    · exact absurd s3 q2
theorem q_member (hm : FdP m) (hN : N ≤ 12) (hr : rows ≤ 12) (ht : t < 4) (hR : RT1 t flds rcs els nb kn rks rk0 sg0 m N rows) (hord : ∀ k, k < 4096 → ord k = nI (osR k)) (hsz : ∀ S, S < 4096 → szs S = nI (cn S)) (hP : PI pn pm pd) (hA : CNm m N rows (Nb nb t) num) (hc : CSs m N rows num c) (x i : Int32) :
    ok (f_B_memberV 4 c.1 4096 c.2.1 14 c.2.2.1 13 c.2.2.2.1 4096 c.2.2.2.2.1 4096 c.2.2.2.2.2.1 4096 c.2.2.2.2.2.2.1 (nI m) (nI rows) (nI N) (c_std c) 144 num (c_scc c) (c_sfr c) 4096 (c_rk c) 4096 (c_sg c) 6868 (c_mem c) 5 (c_sst c) 169 (c_df c) (nI t) x i) (fun a => ok (f_R_member rows0 cols0 prime0 small0 pvs0 fr0 fc0 sm0 flds rcs els nb kn rks rk0 sg0 ord szs pn pm pd (nI t) x i) (fun b => a.1 = b.1 ∧ CSs m N rows num a.2 ∧ RAf m N rows t nb kn rks rk0 sg0 b.2)) := by
  have hM := p2_12 hN
  have hel := hR.2.2.1
  unfold f_B_memberV
  refine ok_b0 (tav_ok ht) ?_
  rcases kd_ok x with ⟨k, s1, rfl, s2⟩ | ⟨s2, s3⟩
  · refine ok_b1 (Q1 := fun r => r = 1) ⟨1, s2, rfl⟩ ?_
    rintro r2 rfl
    refine ok_if (fun q => absurd q (by decide)) (fun _ => ?_)
    refine ok_b15 (sof_ok hm hN hr hA hc) ?_
    rintro u1 u2 u3 u4 u5 u6 u7 u8 u9 u10 u11 u12 u13 u14 u15 ⟨d1, d2, R, cv, os, ρ, l1, l2, l3⟩
    have hmm := l1.2.2.2.2.2.1
    refine ok_b1 (cma_ok (F := fun k a => Kb N R ρ k (os a)) (os := os) (M := 2 ^ N) s1 l1.2.2.2.2.2.2.1 l1.2.2.2.2.1 (fun a ha hf => hmm k a s1 ha hf)) ?_
    intro r21 hr21
    refine ok_some ?_
    unfold f_R_member
    refine ok_b16 (lrn_ok hm hN hr ht hR hord hsz hP) ?_
    rintro v1 v2 v3 v4 v5 v6 v7 v8 v9 v10 v11 v12 v13 v14 v15 v16 ⟨e1, e2⟩
    dsimp only at e1 e2
    subst e1
    obtain ⟨Rr, cr, g1, g2⟩ := e2.1
    obtain ⟨b1, b2, b3, b4⟩ := same hm hN (fun i j hi hj => (hA i j hi hj).2.2) osR_Od l1 g1
    subst b1
    have hRF := l1.2.2.2.2.2.2.2.2.1
    have hRN := l1.2.2.2.2.2.2.2.2.2
    refine ok_if (fun q => absurd q (by decide)) (fun _ => ok_if (fun q => absurd q (nI_pos (by omega))) (fun _ => ok_if (fun q => absurd ((nI_ltI (a := 3) (by omega) (by omega)).mp q) (by omega)) (fun _ => ?_)))
    refine ok_b1 (rto_ok (os := osR) hN hRN ht s1 b2 hsz g2 hel hRF (fun k hk => ⟨hord k hk, osR_Od.1 k hk⟩)) ?_
    intro r22 hr22
    refine ok_some ⟨?_, ⟨d1, Or.inr ⟨d2, R, cv, os, ρ, l1, l2, l3⟩⟩, e2⟩
    exact Ith_un hN l1.2.1 osR_Od kap_inj hr21 hr22
  · refine ok_b1 (Q1 := fun r => r = 0) ⟨0, s2, rfl⟩ ?_
    rintro r2 rfl
    refine ok_if (fun _ => ok_some ?_) (fun q => absurd rfl q)
    unfold f_R_member
    refine ok_b16 (lrn_ok hm hN hr ht hR hord hsz hP) ?_
    rintro v1 v2 v3 v4 v5 v6 v7 v8 v9 v10 v11 v12 v13 v14 v15 v16 ⟨e1, e2⟩
    dsimp only at e1 e2
    subst e1
    refine ok_if (fun q => absurd q (by decide)) (fun _ => ok_if (fun _ => ok_some ⟨rfl, hc, e2⟩) (fun q => ok_if (fun _ => ok_some ⟨rfl, hc, e2⟩) (fun q2 => ?_)))
    rcases s3 with s3 | ⟨-, s3⟩
    · exact absurd s3 q
    · exact absurd s3 q2
theorem q_sign (hm : FdP m) (hN : N ≤ 12) (hr : rows ≤ 12) (ht : t < 4) (hR : RT1 t flds rcs els nb kn rks rk0 sg0 m N rows) (hord : ∀ k, k < 4096 → ord k = nI (osR k)) (hsz : ∀ S, S < 4096 → szs S = nI (cn S)) (hP : PI pn pm pd) (hA : CNm m N rows (Nb nb t) num) (hc : CSs m N rows num c) (x : Int32) :
    ok (f_B_signV 4 c.1 4096 c.2.1 14 c.2.2.1 13 c.2.2.2.1 4096 c.2.2.2.2.1 4096 c.2.2.2.2.2.1 4096 c.2.2.2.2.2.2.1 (nI m) (nI rows) (nI N) (c_std c) 144 num (c_scc c) (c_sfr c) 4096 (c_rk c) 4096 (c_sg c) 6868 (c_mem c) 5 (c_sst c) 169 (c_df c) (nI t) x) (fun a => ok (f_R_sign rows0 cols0 prime0 small0 pvs0 fr0 fc0 sm0 flds rcs els nb kn rks rk0 sg0 ord szs pn pm pd (nI t) x) (fun b => a.1 = b.1 ∧ CSs m N rows num a.2 ∧ RAf m N rows t nb kn rks rk0 sg0 b.2)) := by
  have hM := p2_12 hN
  have hel := hR.2.2.1
  have hfl := hR.1
  have hm31 : m < 2 ^ 31 := by
    rcases hm with q | q
    · omega
    · have := (pr_le m q).2; omega
  -- the reference's way to 'no sign'
  have hno : ∀ c' : C15, CSs m N rows num c' → (¬ (m = 0 ∧ ∃ S, S < 2 ^ N ∧ x = nI S)) → ok (f_R_sign rows0 cols0 prime0 small0 pvs0 fr0 fc0 sm0 flds rcs els nb kn rks rk0 sg0 ord szs pn pm pd (nI t) x) (fun b => (2 : Int32) = b.1 ∧ CSs m N rows num c' ∧ RAf m N rows t nb kn rks rk0 sg0 b.2) := by
    intro c' hc' hno
    unfold f_R_sign
    refine ok_b16 (lrn_ok hm hN hr ht hR hord hsz hP) ?_
    rintro v1 v2 v3 v4 v5 v6 v7 v8 v9 v10 v11 v12 v13 v14 v15 v16 ⟨e1, e2⟩
    dsimp only at e1 e2
    subst e1
    refine ok_jn (fun k50 => ok (k50 0) (fun b => (2 : Int32) = b.1 ∧ CSs m N rows num c' ∧ RAf m N rows t nb kn rks rk0 sg0 b.2)) (ok_if (fun _ => ok_some ⟨rfl, hc', e2⟩) (fun q => absurd rfl q)) ?_
    intro k50 h50
    refine ok_jn (fun k49 => ok (k49 ()) (fun b => (2 : Int32) = b.1 ∧ CSs m N rows num c' ∧ RAf m N rows t nb kn rks rk0 sg0 b.2)) h50 ?_
    intro k49 h49
    refine ok_if (fun q => absurd q (by decide)) (fun _ => ?_)
    refine ok_in (vp_in_nI ht (by decide)) ?_
    rw [nI_clamp (by omega), hfl]
    refine ok_if (fun q => ?_) (fun _ => h49)
    have m0 := (nI_eq0 hm31).mp q
    refine ok_if (fun _ => h49) (fun q2 => ?_)
    refine ok_b1 (wh_ok hN ht hel) ?_
    rintro r25 rfl
    refine ok_if (fun _ => h49) (fun q3 => ?_)
    obtain ⟨S, hS, rfl⟩ := nI_of q2
    exfalso
    apply hno
    refine ⟨m0, S, ?_, rfl⟩
    have : ¬ 2 ^ N - 1 < S := fun h => q3 ((nI_ltI (by omega) hS).mpr h)
    have := Nat.two_pow_pos N
    omega
  unfold f_B_signV
  refine ok_b0 (tav_ok ht) ?_
  refine ok_if (fun q => ?_) (fun q => ?_)
  · have m0 := (nI_eq0 hm31).mp q
    rcases hs_ok hN x with ⟨S, s1, rfl, s2⟩ | ⟨s2, s3⟩
    · refine ok_b1 (Q1 := fun r => r = 1) ⟨1, s2, rfl⟩ ?_
      rintro r2 rfl
      refine ok_if (fun q => absurd q (by decide)) (fun _ => ?_)
      refine ok_b15 (sof_ok hm hN hr hA hc) ?_
      rintro u1 u2 u3 u4 u5 u6 u7 u8 u9 u10 u11 u12 u13 u14 u15 ⟨d1, d2, R, cv, os, ρ, l1, l2, l3⟩
      have hcs : CSs m N rows num (u1, u2, u3, u4, u5, u6, u7, u8, u9, u10, u11, u12, u13, u14, u15) := ⟨d1, Or.inr ⟨d2, R, cv, os, ρ, l1, l2, l3⟩⟩
      have hRN := l1.2.2.2.2.2.2.2.2.2
      have hcS := cn_le S
      refine ok_b1 (bc_ok (by omega)) ?_
      rintro r22 rfl
      have l3' : u10 = nI R := l3
      rw [l3']
      -- the reference
      have href : ∀ a : Int32, (cn S = R → a = u12 S) → (cn S ≠ R → a = 2) → ok (f_R_sign rows0 cols0 prime0 small0 pvs0 fr0 fc0 sm0 flds rcs els nb kn rks rk0 sg0 ord szs pn pm pd (nI t) (nI S)) (fun b => a = b.1 ∧ CSs m N rows num (u1, u2, u3, u4, u5, u6, u7, u8, u9, u10, u11, u12, u13, u14, u15) ∧ RAf m N rows t nb kn rks rk0 sg0 b.2) := by
        intro a ha1 ha2
        unfold f_R_sign
        refine ok_b16 (lrn_ok hm hN hr ht hR hord hsz hP) ?_
        rintro v1 v2 v3 v4 v5 v6 v7 v8 v9 v10 v11 v12 v13 v14 v15 v16 ⟨e1, e2⟩
        dsimp only at e1 e2
        subst e1
        obtain ⟨Rr, cr, g1, g2⟩ := e2.1
        obtain ⟨b1, b2, b3, b4⟩ := same hm hN (fun i j hi hj => (hA i j hi hj).2.2) osR_Od l1 g1
        subst b1
        refine ok_jn (fun k50 => ∀ z : Int32, (cn S = R → z = 1) → (cn S ≠ R → z = 0) → ok (k50 z) (fun b => a = b.1 ∧ CSs m N rows num (u1, u2, u3, u4, u5, u6, u7, u8, u9, u10, u11, u12, u13, u14, u15) ∧ RAf m N rows t nb kn rks rk0 sg0 b.2)) ?_ ?_
        · intro z z1 z2
          by_cases q5 : cn S = R
          · rw [z1 q5]
            refine ok_if (fun q => absurd q (by decide)) (fun _ => ?_)
            rw [ix4096]
            refine ok_in (vp_in_nI (by omega) (by decide)) ?_
            rw [nI_clamp (by omega)]
            refine ok_some ⟨?_, hcs, e2⟩
            rw [ha1 q5]
            exact (b3 m0 S s1 q5).symm
          · rw [z2 q5]
            exact ok_if (fun _ => ok_some ⟨ha2 q5, hcs, e2⟩) (fun q => absurd rfl q)
        · intro k50 h50
          refine ok_jn (fun k49 => (cn S ≠ R) → ok (k49 ()) (fun b => a = b.1 ∧ CSs m N rows num (u1, u2, u3, u4, u5, u6, u7, u8, u9, u10, u11, u12, u13, u14, u15) ∧ RAf m N rows t nb kn rks rk0 sg0 b.2)) (fun h => h50 0 (fun h2 => absurd h2 h) (fun _ => rfl)) ?_
          intro k49 h49
          refine ok_if (fun q => absurd q (by decide)) (fun _ => ?_)
          refine ok_in (vp_in_nI ht (by decide)) ?_
          rw [nI_clamp (n := t) (by omega), hfl]
          refine ok_if (fun _ => ?_) (fun q2 => absurd ((nI_eq0 hm31).mpr m0) q2)
          refine ok_if (fun q2 => absurd q2 (nI_pos (by omega))) (fun _ => ?_)
          refine ok_b1 (wh_ok hN ht hel) ?_
          rintro r25 rfl
          refine ok_if (fun q2 => absurd ((nI_ltI (by omega) (by omega)).mp q2) (by omega)) (fun _ => ?_)
          refine ok_in (vp_in_nI (by omega) (by decide)) (ok_in (vp_in_nI ht (by decide)) ?_)
          have g2' : v11 t = nI R := g2
          rw [nI_clamp (by omega), hsz S (by omega), g2']
          refine ok_if (fun q2 => ?_) (fun q2 => ?_)
          · exact h50 1 (fun _ => rfl) (fun h => absurd ((nI_eq (by omega) (by omega)).mp q2) h)
          · exact h49 (fun h => q2 (by rw [h]))
      refine ok_if (fun q5 => ?_) (fun q5 => ?_)
      · have h5 := (nI_eq (by omega) (by omega)).mp q5
        refine ok_in (vp_in_nI (by omega) (by decide)) ?_
        rw [nI_clamp (by omega)]
        refine ok_some ?_
        rw [← l3']
        exact href (u12 S) (fun _ => rfl) (fun h => absurd h5 h)
      · have h5 : cn S ≠ R := fun h => q5 (by rw [h])
        refine ok_some ?_
        rw [← l3']
        exact href 2 (fun h => absurd h h5) (fun _ => rfl)
    · refine ok_b1 (Q1 := fun r => r = 0) ⟨0, s2, rfl⟩ ?_
      rintro r2 rfl
      refine ok_if (fun _ => ok_some (hno c hc ?_)) (fun q => absurd rfl q)
      rintro ⟨-, S, h1, rfl⟩
      rcases s3 with s3 | ⟨-, s3⟩
      · exact absurd s3 (nI_pos (by omega))
      · have := (nI_ltI (by omega) (by omega)).mp s3
        omega
  · refine ok_some (hno c hc ?_)
    rintro ⟨h1, -⟩
    exact q ((nI_eq0 hm31).mpr h1)
theorem q_tutte (hm : FdP m) (hN : N ≤ 12) (hr : rows ≤ 12) (ht : t < 4) (hR : RT1 t flds rcs els nb kn rks rk0 sg0 m N rows) (hord : ∀ k, k < 4096 → ord k = nI (osR k)) (hsz : ∀ S, S < 4096 → szs S = nI (cn S)) (hP : PI pn pm pd) (hA : CNm m N rows (Nb nb t) num) (hc : CSs m N rows num c) (x y : Int32) :
    ok (f_B_tutteV 4 c.1 4096 c.2.1 14 c.2.2.1 13 c.2.2.2.1 4096 c.2.2.2.2.1 4096 c.2.2.2.2.2.1 4096 c.2.2.2.2.2.2.1 (nI m) (nI rows) (nI N) (c_std c) 144 num (c_scc c) (c_sfr c) 4096 (c_rk c) 4096 (c_sg c) 6868 (c_mem c) 5 (c_sst c) 169 (c_df c) (nI t) x y) (fun a => ok (f_R_tutte rows0 cols0 prime0 small0 pvs0 fr0 fc0 sm0 flds rcs els nb kn rks rk0 sg0 ord szs cf0 cc0 pn pm pd (nI t) x y) (fun b => a.1 = b.1 ∧ CSs m N rows num a.2 ∧ RAf m N rows t nb kn rks rk0 sg0 (b.2.1, b.2.2.1, b.2.2.2.1, b.2.2.2.2.1, b.2.2.2.2.2.1, b.2.2.2.2.2.2.1, b.2.2.2.2.2.2.2.1, b.2.2.2.2.2.2.2.2.1, b.2.2.2.2.2.2.2.2.2.1, b.2.2.2.2.2.2.2.2.2.2.1, b.2.2.2.2.2.2.2.2.2.2.2.1, b.2.2.2.2.2.2.2.2.2.2.2.2.1, b.2.2.2.2.2.2.2.2.2.2.2.2.2.1, b.2.2.2.2.2.2.2.2.2.2.2.2.2.2.1, b.2.2.2.2.2.2.2.2.2.2.2.2.2.2.2.1))) := by
  have hM := p2_12 hN
  have hel := hR.2.2.1
  have hle : ∀ z : Int32, 13 ≤ z ↔ 12 < z := by
    intro z
    have e1 : (13 : Int32).toInt = 13 := rfl
    have e2 : (12 : Int32).toInt = 12 := rfl
    rw [i_le, i_lt, e1, e2]; omega
  have hlt : ∀ z : Int32, z < 13 ↔ z ≤ 12 := by
    intro z
    have e1 : (13 : Int32).toInt = 13 := rfl
    have e2 : (12 : Int32).toInt = 12 := rfl
    rw [i_le, i_lt, e1, e2]; omega
  have hno : (x < 0 ∨ 12 < x ∨ y < 0 ∨ ¬ y ≤ 12) → ok (f_R_tutte rows0 cols0 prime0 small0 pvs0 fr0 fc0 sm0 flds rcs els nb kn rks rk0 sg0 ord szs cf0 cc0 pn pm pd (nI t) x y) (fun b => (0 : Int64) = b.1 ∧ CSs m N rows num c ∧ RAf m N rows t nb kn rks rk0 sg0 (b.2.1, b.2.2.1, b.2.2.2.1, b.2.2.2.2.1, b.2.2.2.2.2.1, b.2.2.2.2.2.2.1, b.2.2.2.2.2.2.2.1, b.2.2.2.2.2.2.2.2.1, b.2.2.2.2.2.2.2.2.2.1, b.2.2.2.2.2.2.2.2.2.2.1, b.2.2.2.2.2.2.2.2.2.2.2.1, b.2.2.2.2.2.2.2.2.2.2.2.2.1, b.2.2.2.2.2.2.2.2.2.2.2.2.2.1, b.2.2.2.2.2.2.2.2.2.2.2.2.2.2.1, b.2.2.2.2.2.2.2.2.2.2.2.2.2.2.2.1)) := by
    intro h
    unfold f_R_tutte
    refine ok_b16 (lrn_ok hm hN hr ht hR hord hsz hP) ?_
    rintro v1 v2 v3 v4 v5 v6 v7 v8 v9 v10 v11 v12 v13 v14 v15 v16 ⟨e1, e2⟩
    dsimp only at e1 e2
    subst e1
    refine ok_if (fun q => absurd q (by decide)) (fun _ => ok_if (fun _ => ok_some ⟨rfl, hc, e2⟩) (fun q1 => ok_if (fun _ => ok_some ⟨rfl, hc, e2⟩) (fun q2 => ok_if (fun _ => ok_some ⟨rfl, hc, e2⟩) (fun q3 => ok_if (fun q4 => ?_) (fun _ => ok_some ⟨rfl, hc, e2⟩)))))
    rcases h with h | h | h | h
    · exact absurd h q1
    · exact absurd h q3
    · exact absurd h q2
    · exact absurd q4 h
  unfold f_B_tutteV
  refine ok_b0 (tav_ok ht) ?_
  refine ok_if (fun q => ok_some (hno (Or.inl q))) (fun q1 => ok_if (fun q => ok_some (hno (Or.inr (Or.inl ((hle x).mp q))))) (fun q2 => ok_if (fun q => ok_some (hno (Or.inr (Or.inr (Or.inl q))))) (fun q3 => ok_if (fun q4 => ?_) (fun q => ok_some (hno (Or.inr (Or.inr (Or.inr (fun h => q ((hlt y).mpr h))))))))))
  obtain ⟨i, hi, rfl⟩ := nI_of q1
  obtain ⟨j, hj, rfl⟩ := nI_of q3
  have hi12 : i ≤ 12 := by
    rcases Nat.lt_or_ge 12 i with h | h
    · exact absurd ((nI_leI (a := 13) (by omega) hi).mpr (by omega)) q2
    · exact h
  have hj12 : j ≤ 12 := by
    have := (nI_ltI (b := 13) hj (by omega)).mp q4
    omega
  refine ok_b15 (sof_ok hm hN hr hA hc) ?_
  rintro u1 u2 u3 u4 u5 u6 u7 u8 u9 u10 u11 u12 u13 u14 u15 ⟨d1, d2, R, cv, os, ρ, l1, l2, l3⟩
  have hcs : CSs m N rows num (u1, u2, u3, u4, u5, u6, u7, u8, u9, u10, u11, u12, u13, u14, u15) := ⟨d1, Or.inr ⟨d2, R, cv, os, ρ, l1, l2, l3⟩⟩
  have hRF := l1.2.2.2.2.2.2.2.2.1
  have hRN := l1.2.2.2.2.2.2.2.2.2
  have l2' : u9 = nI N := l2
  have l3' : u10 = nI R := l3
  have hdf : ∀ a b, a < 13 → b < 13 → u15 (a * 13 + b) = nI (cnt (2 ^ N) (dfb R ρ a b)) := l1.2.2.2.2.2.2.2.1
  rw [l2', l3']
  refine ok_b1 (co_ok (D := fun a b => cnt (2 ^ N) (dfb R ρ a b)) hN hRN hi12 hj12 (fun a b ha hb => ⟨hdf a b ha hb, by have := cnt_bd (f := dfb R ρ a b) (N := 2 ^ N); omega⟩)) ?_
  rintro r22 rfl
  refine ok_some ?_
  rw [← l2', ← l3']
  unfold f_R_tutte
  refine ok_b16 (lrn_ok hm hN hr ht hR hord hsz hP) ?_
  rintro v1 v2 v3 v4 v5 v6 v7 v8 v9 v10 v11 v12 v13 v14 v15 v16 ⟨e1, e2⟩
  dsimp only at e1 e2
  subst e1
  obtain ⟨Rr, cr, g1, g2⟩ := e2.1
  obtain ⟨b1, b2, b3, b4⟩ := same hm hN (fun i j hi hj => (hA i j hi hj).2.2) osR_Od l1 g1
  subst b1
  refine ok_if (fun q => absurd q (by decide)) (fun _ => ok_if (fun q => absurd q q1) (fun _ => ok_if (fun q => absurd q q3) (fun _ => ok_if (fun q => absurd ((hle _).mpr q) q2) (fun _ => ok_if (fun _ => ?_) (fun q => absurd ((hlt _).mp q4) q)))))
  refine ok_b2 (ply_ok hN hRN ht b2 hsz g2 hel hRF) ?_
  intro u23 u24 hu
  dsimp only at hu
  rw [ix13]
  refine ok_in (vp_in_nI (by omega) (by decide)) ?_
  rw [nI_clamp (by omega)]
  refine ok_some ⟨?_, hcs, e2⟩
  rw [hu i j (by omega) (by omega), ← tt_sum hN hRN hRF]
theorem q_below (hm : FdP m) (hN : N ≤ 12) (hr : rows ≤ 12) (ht : t < 4) (hR : RT1 t flds rcs els nb kn rks rk0 sg0 m N rows) (hord : ∀ k, k < 4096 → ord k = nI (osR k)) (hsz : ∀ S, S < 4096 → szs S = nI (cn S)) (hP : PI pn pm pd) (hA : CNm m N rows (Nb nb t) num) (hc : CSs m N rows num c) (x : Int32) :
    ok (f_B_belowV 4 c.1 4096 c.2.1 14 c.2.2.1 13 c.2.2.2.1 4096 c.2.2.2.2.1 4096 c.2.2.2.2.2.1 4096 c.2.2.2.2.2.2.1 (nI m) (nI rows) (nI N) (c_std c) 144 num (c_scc c) (c_sfr c) 4096 (c_rk c) 4096 (c_sg c) 6868 (c_mem c) 5 (c_sst c) 169 (c_df c) (nI t) x) (fun a => ok (f_R_below rows0 cols0 prime0 small0 pvs0 fr0 fc0 sm0 flds rcs els nb kn rks rk0 sg0 ord szs so0 pn pm pd (nI t) x) (fun b => a.1 = b.1 ∧ CSs m N rows num a.2 ∧ RAf m N rows t nb kn rks rk0 sg0 (b.2.1, b.2.2.1, b.2.2.2.1, b.2.2.2.2.1, b.2.2.2.2.2.1, b.2.2.2.2.2.2.1, b.2.2.2.2.2.2.2.1, b.2.2.2.2.2.2.2.2.1, b.2.2.2.2.2.2.2.2.2.1, b.2.2.2.2.2.2.2.2.2.2.1, b.2.2.2.2.2.2.2.2.2.2.2.1, b.2.2.2.2.2.2.2.2.2.2.2.2.1, b.2.2.2.2.2.2.2.2.2.2.2.2.2.1, b.2.2.2.2.2.2.2.2.2.2.2.2.2.2.1, b.2.2.2.2.2.2.2.2.2.2.2.2.2.2.2.1))) := by
  have hM := p2_12 hN
  have hel := hR.2.2.1
  have hfl := hR.1
  have hm31 : m < 2 ^ 31 := by
    rcases hm with q | q
    · omega
    · have := (pr_le m q).2; omega
  unfold f_B_belowV
  refine ok_b0 (tav_ok ht) ?_
  refine ok_if (fun q => ?_) (fun q => ?_)
  · have m0 := (nI_eq0 hm31).mp q
    refine ok_b15 (sof_ok hm hN hr hA hc) ?_
    rintro u1 u2 u3 u4 u5 u6 u7 u8 u9 u10 u11 u12 u13 u14 u15 ⟨d1, d2, R, cv, os, ρ, l1, l2, l3⟩
    have hcs : CSs m N rows num (u1, u2, u3, u4, u5, u6, u7, u8, u9, u10, u11, u12, u13, u14, u15) := ⟨d1, Or.inr ⟨d2, R, cv, os, ρ, l1, l2, l3⟩⟩
    have hRF := l1.2.2.2.2.2.2.2.2.1
    have hRN := l1.2.2.2.2.2.2.2.2.2
    have l2' : u9 = nI N := l2
    have hmm := l1.2.2.2.2.2.1
    have hrk12 : ∀ T, T < 2 ^ N → u11 T = nI (ρ T) ∧ ρ T ≤ 12 := fun T hT => ⟨(l1.2.2.1 T hT).1, by have := hRF.1 T hT; have := cn_le T; omega⟩
    refine ok_b1 (cma_ok (F := fun k a => Kb N R ρ k (os a)) (os := os) (M := 2 ^ N) (k := 1) (by decide) l1.2.2.2.2.2.2.1 l1.2.2.2.2.1 (fun a ha hf => hmm 1 a (by decide) ha hf)) ?_
    intro r19 hr19
    -- the reference up to its circuit
    have href : ∀ (a : Int32), (∀ (v11 v12 v13 : Nat → Int32) (Rr : Nat) (cr : Nat → Int32), Lr m N rows t (Nb nb t) osR Rr cr v12 v13 → v11 t = nI Rr → (r19 = -1 → a = -1) ∧ (¬ r19 = -1 → 0 ≤ r19 ∧ ok (f_R_belowOf 16384 v13 16384 v12 4 els 13 so0 (nI t) r19) (fun r => r.1 = a))) → ok (f_R_below rows0 cols0 prime0 small0 pvs0 fr0 fc0 sm0 flds rcs els nb kn rks rk0 sg0 ord szs so0 pn pm pd (nI t) x) (fun b => a = b.1 ∧ CSs m N rows num (u1, u2, u3, u4, u5, u6, u7, u8, u9, u10, u11, u12, u13, u14, u15) ∧ RAf m N rows t nb kn rks rk0 sg0 (b.2.1, b.2.2.1, b.2.2.2.1, b.2.2.2.2.1, b.2.2.2.2.2.1, b.2.2.2.2.2.2.1, b.2.2.2.2.2.2.2.1, b.2.2.2.2.2.2.2.2.1, b.2.2.2.2.2.2.2.2.2.1, b.2.2.2.2.2.2.2.2.2.2.1, b.2.2.2.2.2.2.2.2.2.2.2.1, b.2.2.2.2.2.2.2.2.2.2.2.2.1, b.2.2.2.2.2.2.2.2.2.2.2.2.2.1, b.2.2.2.2.2.2.2.2.2.2.2.2.2.2.1, b.2.2.2.2.2.2.2.2.2.2.2.2.2.2.2.1)) := by
      intro a ha
      unfold f_R_below
      refine ok_b16 (lrn_ok hm hN hr ht hR hord hsz hP) ?_
      rintro v1 v2 v3 v4 v5 v6 v7 v8 v9 v10 v11 v12 v13 v14 v15 v16 ⟨e1, e2⟩
      dsimp only at e1 e2
      subst e1
      obtain ⟨Rr, cr, g1, g2⟩ := e2.1
      have hx := ha v11 v12 v13 Rr cr g1 g2
      obtain ⟨b1, b2, b3, b4⟩ := same hm hN (fun i j hi hj => (hA i j hi hj).2.2) osR_Od l1 g1
      subst b1
      refine ok_jn (fun k28 => ok (k28 r19) (fun b => a = b.1 ∧ CSs m N rows num (u1, u2, u3, u4, u5, u6, u7, u8, u9, u10, u11, u12, u13, u14, u15) ∧ RAf m N rows t nb kn rks rk0 sg0 (b.2.1, b.2.2.1, b.2.2.2.1, b.2.2.2.2.1, b.2.2.2.2.2.1, b.2.2.2.2.2.2.1, b.2.2.2.2.2.2.2.1, b.2.2.2.2.2.2.2.2.1, b.2.2.2.2.2.2.2.2.2.1, b.2.2.2.2.2.2.2.2.2.2.1, b.2.2.2.2.2.2.2.2.2.2.2.1, b.2.2.2.2.2.2.2.2.2.2.2.2.1, b.2.2.2.2.2.2.2.2.2.2.2.2.2.1, b.2.2.2.2.2.2.2.2.2.2.2.2.2.2.1, b.2.2.2.2.2.2.2.2.2.2.2.2.2.2.2.1))) ?_ ?_
      · by_cases q5 : r19 = -1
        · have h5 := hx.1 q5
          rw [q5]
          exact ok_if (fun h => absurd h (by decide)) (fun _ => ok_some ⟨h5, hcs, e2⟩)
        · obtain ⟨h5, h6⟩ := hx.2 q5
          refine ok_if (fun _ => ?_) (fun h => absurd h5 h)
          refine ok_b2 h6 ?_
          intro r20 u21 h7
          exact ok_some ⟨h7.symm, hcs, e2⟩
      · intro k28 h28
        refine ok_jn (fun k27 => True) trivial ?_
        intro k27 _
        refine ok_if (fun h => absurd h (by decide)) (fun _ => ?_)
        refine ok_in (vp_in_nI ht (by decide)) ?_
        rw [nI_clamp (by omega), hfl]
        refine ok_if (fun _ => ?_) (fun h => absurd q h)
        refine ok_b1 (rto_ok (os := osR) (kind := 1) (i := x) hN hRN ht (by decide) b2 hsz g2 hel hRF (fun k hk => ⟨hord k hk, osR_Od.1 k hk⟩)) ?_
        intro r26 hr26
        have : r19 = r26 := Ith_un hN l1.2.1 osR_Od kap_inj hr19 hr26
        rw [← this]; exact h28
    refine ok_if (fun q5 => ?_) (fun q5 => ?_)
    · refine ok_some (href (-1) ?_)
      intro v11 v12 v13 Rr cr g1 g2
      exact ⟨fun _ => rfl, fun h => absurd q5 h⟩
    · -- a circuit
      obtain ⟨C, hC, hCK, rfl⟩ : ∃ C, C < 2 ^ N ∧ Kb N R ρ 1 C = true ∧ r19 = nI C := by
        rcases hr19 with ⟨a, a1, a2, a3, a4⟩ | ⟨a1, -⟩
        · exact ⟨os a, l1.2.1.1 a a1, a2, a4⟩
        · exact absurd a1 q5
      have hCir := Cir_of hC hCK
      have hcl : Clo N ρ := by
        obtain ⟨rr, hrr, -, h9⟩ := lrn_ok (rows0 := rows0) (cols0 := cols0) (prime0 := prime0) (small0 := small0) (pvs0 := pvs0) (fr0 := fr0) (fc0 := fc0) (sm0 := sm0) hm hN hr ht hR hord hsz hP
        obtain ⟨Rr, cr, g1, g2⟩ := h9.1
        exact (same hm hN (fun i j hi hj => (hA i j hi hj).2.2) osR_Od l1 g1).2.2.2 m0
      have hcv0 : ∀ S, S < 2 ^ N → cn S ≠ R → cv S = 0 := by
        obtain ⟨⟨rs, hCT, hcv⟩, -⟩ := l1
        intro S _ h; rw [hcv]; exact cvC_0 h
      have hC0 : C ≠ 0 := by
        intro h
        have h2 := hCir.2.1
        rw [h] at h2
        have : cn 0 = 0 := by decide
        omega
      obtain ⟨l, hl, hmin⟩ : ∃ l, C.testBit l = true ∧ ∀ e, e < l → C.testBit e = false := by
        obtain ⟨e0, he0⟩ := Nat.exists_testBit_of_ne_zero hC0
        have : ∀ n, (∃ e, e < n ∧ C.testBit e = true) → ∃ l, C.testBit l = true ∧ ∀ e, e < l → C.testBit e = false := by
          intro n
          induction n with
          | zero => rintro ⟨e, he, -⟩; omega
          | succ n ih =>
            rintro ⟨e, he, hb⟩
            by_cases q6 : ∃ e, e < n ∧ C.testBit e = true
            · exact ih q6
            · refine ⟨e, hb, fun f hf => ?_⟩
              cases q7 : C.testBit f with
              | false => rfl
              | true => exact absurd ⟨f, by omega, q7⟩ q6
        exact this (e0 + 1) ⟨e0, by omega, he0⟩
      have hwd := fun {x : Nat} (hx : x < N) (hxC : C.testBit x = true) => wdn_basis hN hRF hcl (fun S hS => (l1.2.2.1 S hS).2) hcv0 hCir hx hxC
      have hW := (hwd (lt_bit hC hl) hl).2
      have hWl : wdn ρ C N < 2 ^ N := wdn_lt hC (Nat.le_refl _)
      have hsgn : ∀ e, e < N → C.testBit e = true → cn (tg (wdn ρ C N) e) = R ∧ u12 (tg (wdn ρ C N) e) ≠ 0 := by
        intro e he hb
        have h1 := tg_cn hWl hN he (wdn_sub e hb)
        have h2 : cn (tg (wdn ρ C N) e) = R := by omega
        refine ⟨h2, ?_⟩
        have h3 : u12 (tg (wdn ρ C N) e) = cv (tg (wdn ρ C N) e) * fs N os cv (2 ^ N) := l1.2.2.2.1 _ (tg_lt hWl he) h2
        rw [h3]
        have h4 := (hwd he hb).1
        have htv : ∀ S, tv (cv S) := by
          obtain ⟨⟨rs, hCT, hcv⟩, -⟩ := l1
          intro S; rw [hcv]; exact cvC_tv S
        intro h5
        rw [tv_n0 (htv _) (fs_tv htv _) (fs_n0 (inj_sur l1.2.1.1 (Od_inj l1.2.1)) ⟨_, tg_lt hWl he, h4⟩)] at h5
        exact h4 h5
      rw [l2']
      refine ok_b1 (np_ok hN hC hl hmin hrk12 (fun e he hb => ?_)) ?_
      · have h1 := (hsgn e he hb).2
        have h2 : turn (wdn ρ C N) e = 1 ∨ turn (wdn ρ C N) e = -1 := by
          unfold turn; split; exact Or.inl rfl; exact Or.inr rfl
        intro h3
        apply h1
        rcases h2 with h2 | h2 <;> rw [h2] at h3
        · rwa [Int32.one_mul] at h3
        · rw [Int32.neg_mul, Int32.one_mul] at h3
          have := congrArg (fun z : Int32 => -z) h3
          simpa using this
      · rintro r22 rfl
        refine ok_some ?_
        rw [← l2']
        refine href _ ?_
        intro v11 v12 v13 Rr cr g1 g2
        obtain ⟨b1, b2, b3, b4⟩ := same hm hN (fun i j hi hj => (hA i j hi hj).2.2) osR_Od l1 g1
        subst b1
        refine ⟨fun h => absurd h q5, fun _ => ⟨nI_pos' (by omega), ?_⟩⟩
        refine ok_mono (bo_ok hN hRN ht hel b2 hRF hcl hCir hl hmin hW) ?_
        intro r hr'
        rw [hr']
        congr 1
        refine nbt_cg (d := 1) (Or.inl rfl) (fun e he => ?_) hl N
        rw [Int32.one_mul]
        have heN := lt_bit hC he
        rw [b3 m0 _ (tg_lt hWl heN) (hsgn e heN he).1]
  · -- another field: none
    refine ok_some ?_
    unfold f_R_below
    refine ok_b16 (lrn_ok hm hN hr ht hR hord hsz hP) ?_
    rintro v1 v2 v3 v4 v5 v6 v7 v8 v9 v10 v11 v12 v13 v14 v15 v16 ⟨e1, e2⟩
    dsimp only at e1 e2
    subst e1
    refine ok_jn (fun k28 => ok (k28 (-1)) (fun b => (-1 : Int32) = b.1 ∧ CSs m N rows num c ∧ RAf m N rows t nb kn rks rk0 sg0 (b.2.1, b.2.2.1, b.2.2.2.1, b.2.2.2.2.1, b.2.2.2.2.2.1, b.2.2.2.2.2.2.1, b.2.2.2.2.2.2.2.1, b.2.2.2.2.2.2.2.2.1, b.2.2.2.2.2.2.2.2.2.1, b.2.2.2.2.2.2.2.2.2.2.1, b.2.2.2.2.2.2.2.2.2.2.2.1, b.2.2.2.2.2.2.2.2.2.2.2.2.1, b.2.2.2.2.2.2.2.2.2.2.2.2.2.1, b.2.2.2.2.2.2.2.2.2.2.2.2.2.2.1, b.2.2.2.2.2.2.2.2.2.2.2.2.2.2.2.1))) (ok_if (fun h => absurd h (by decide)) (fun _ => ok_some ⟨rfl, hc, e2⟩)) ?_
    intro k28 h28
    refine ok_jn (fun k27 => ok (k27 ()) (fun b => (-1 : Int32) = b.1 ∧ CSs m N rows num c ∧ RAf m N rows t nb kn rks rk0 sg0 (b.2.1, b.2.2.1, b.2.2.2.1, b.2.2.2.2.1, b.2.2.2.2.2.1, b.2.2.2.2.2.2.1, b.2.2.2.2.2.2.2.1, b.2.2.2.2.2.2.2.2.1, b.2.2.2.2.2.2.2.2.2.1, b.2.2.2.2.2.2.2.2.2.2.1, b.2.2.2.2.2.2.2.2.2.2.2.1, b.2.2.2.2.2.2.2.2.2.2.2.2.1, b.2.2.2.2.2.2.2.2.2.2.2.2.2.1, b.2.2.2.2.2.2.2.2.2.2.2.2.2.2.1, b.2.2.2.2.2.2.2.2.2.2.2.2.2.2.2.1))) h28 ?_
    intro k27 h27
    refine ok_if (fun h => absurd h (by decide)) (fun _ => ?_)
    refine ok_in (vp_in_nI ht (by decide)) ?_
    rw [nI_clamp (by omega), hfl]
    exact ok_if (fun h => absurd h q) (fun _ => h27)
end Ask
