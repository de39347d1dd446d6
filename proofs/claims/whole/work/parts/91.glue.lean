/-! one table, both ways: what holds between calls -/
abbrev C15 : Type := Int32 × (Nat → Int32) × (Nat → Int32) × (Nat → Int32) × (Nat → Int64) × (Nat → Int64) × (Nat → Int64) × Int32 × Int32 × Int32 × (Nat → Int32) × (Nat → Int32) × (Nat → Int32) × (Nat → Int32) × (Nat → Int32)
abbrev c_std (c : C15) : Int32 := c.2.2.2.2.2.2.2.1
abbrev c_scc (c : C15) : Int32 := c.2.2.2.2.2.2.2.2.1
abbrev c_sfr (c : C15) : Int32 := c.2.2.2.2.2.2.2.2.2.1
abbrev c_rk (c : C15) : Nat → Int32 := c.2.2.2.2.2.2.2.2.2.2.1
abbrev c_sg (c : C15) : Nat → Int32 := c.2.2.2.2.2.2.2.2.2.2.2.1
abbrev c_mem (c : C15) : Nat → Int32 := c.2.2.2.2.2.2.2.2.2.2.2.2.1
abbrev c_sst (c : C15) : Nat → Int32 := c.2.2.2.2.2.2.2.2.2.2.2.2.2.1
abbrev c_df (c : C15) : Nat → Int32 := c.2.2.2.2.2.2.2.2.2.2.2.2.2.2
def acl (num : Nat → Int32) : Nat → Nat → Int := fun r f => (num (r * 12 + f)).toInt
/-- the class's numbers of a table -/
def CNm (m N rows : Nat) (A : Nat → Nat → Int) (num : Nat → Int32) : Prop := ∀ i j, i < rows → j < N → -999 ≤ (num (i * 12 + j)).toInt ∧ (num (i * 12 + j)).toInt ≤ 999 ∧ (m : Int) ∣ A i j - (num (i * 12 + j)).toInt
/-- its study is right where it says so -/
def CSt (m N rows : Nat) (num : Nat → Int32) (c : C15) : Prop := ∃ (R : Nat) (cv : Nat → Int32) (os ρ : Nat → Nat), Lc m N rows (acl num) R cv os ρ (c_rk c) (c_sg c) (c_mem c) (c_sst c) (c_df c) ∧ c_scc c = nI N ∧ c_sfr c = nI R
def COr (c : C15) : Prop := ∃ N0, N0 ≤ 12 ∧ c.1 = nI N0 ∧ OX N0 c.2.1 c.2.2.1
def CSs (m N rows : Nat) (num : Nat → Int32) (c : C15) : Prop := COr c ∧ (c_std c = 0 ∨ c_std c = 1 ∧ CSt m N rows num c)
def sof (f r k : Int32) (num : Nat → Int32) (c : C15) : Option C15 := f_B_studyOf c.1 4096 c.2.1 14 c.2.2.1 13 c.2.2.2.1 4096 c.2.2.2.2.1 4096 c.2.2.2.2.2.1 4096 c.2.2.2.2.2.2.1 f r k (c_std c) 144 num (c_scc c) (c_sfr c) 4096 (c_rk c) 4096 (c_sg c) 6868 (c_mem c) 5 (c_sst c) 169 (c_df c)
theorem sof_ok {m N rows : Nat} {A : Nat → Nat → Int} {num : Nat → Int32} {c : C15} (hm : FdP m) (hN : N ≤ 12) (hr : rows ≤ 12) (hA : CNm m N rows A num) (h : CSs m N rows num c) : ok (sof (nI m) (nI rows) (nI N) num c) (fun c' => COr c' ∧ c_std c' = 1 ∧ CSt m N rows num c') := by
  obtain ⟨⟨N0, n0, n1, n2⟩, h2⟩ := h
  unfold sof f_B_studyOf
  refine ok_if (fun q => ?_) (fun q => ?_)
  · refine ok_b4 (ft_ok n0 hN n1 n2) ?_
    rintro u2 u3 u4 u5 ⟨e1, e2⟩
    dsimp only at e1 e2
    refine ok_b10 (cl_okQ (Q := fun r => r.1 = nI N ∧ ∃ (R : Nat) (cv : Nat → Int32) (os ρ : Nat → Nat), r.2.1 = nI R ∧ Lc m N rows (acl num) R cv os ρ r.2.2.1 r.2.2.2.1 r.2.2.2.2.1 r.2.2.2.2.2.1 r.2.2.2.2.2.2.1) hm hN hr e2 (fun r f hr hf => ⟨(hA r f hr hf).1, (hA r f hr hf).2.1⟩) (fun R cv os ρ rk sgn mem sst df lo' mi' hi' hL => ⟨rfl, R, cv, os, ρ, rfl, hL⟩)) ?_
    rintro v1 v2 v3 v4 v5 v6 v7 v8 v9 v10 ⟨f1, R, cv, os, ρ, f2, f3⟩
    dsimp only at f1 f2 f3
    exact ok_some ⟨⟨N, hN, e1, e2⟩, rfl, R, cv, os, ρ, f3, f1, f2⟩
  · rcases h2 with h2 | ⟨h2, h3⟩
    · exact absurd h2 q
    · exact ok_some ⟨⟨N0, n0, n1, n2⟩, h2, h3⟩
/-- the reference's arrays, between calls -/
def RT1 (t : Nat) (flds rcs els nb kn rks rkO sgO : Nat → Int32) (m N rows : Nat) : Prop := flds t = nI m ∧ rcs t = nI rows ∧ els t = nI N ∧ (∀ i j, i < rows → j < N → -999 ≤ Nb nb t i j ∧ Nb nb t i j ≤ 999) ∧ (kn t = 0 ∨ kn t = 1 ∧ ∃ R cv, Lr m N rows t (Nb nb t) osR R cv rkO sgO ∧ rks t = nI R)
theorem Lr_keep {m N rows t : Nat} {A : Nat → Nat → Int} {os : Nat → Nat} {R : Nat} {cv rk sg rk' sg' : Nat → Int32} (h : Lr m N rows t A os R cv rk sg) (h1 : ∀ S, S < 2 ^ N → rk' (4096 * t + S) = rk (4096 * t + S)) (h2 : ∀ S, S < 2 ^ N → sg' (4096 * t + S) = sg (4096 * t + S)) : Lr m N rows t A os R cv rk' sg' := by
  obtain ⟨a, b, ρ, c⟩ := h
  exact ⟨a, fun S hS => by rw [h2 S hS]; exact b S hS, ρ, fun S hS => by rw [h1 S hS]; exact c S hS⟩
theorem osR_sur : ∀ S, S < 4096 → ∃ k, k < 4096 ∧ osR k = S := inj_sur osR_Od.1 (Od_inj osR_Od)
/-- what learn leaves of the reference -/
theorem lrn_ok {rows0 cols0 prime0 : Int32} {small0 pvs0 fr0 fc0 sm0 flds rcs els nb kn rks rk0 sg0 ord szs pn pm : Nat → Int32} {pd : Nat → Nat → Int32} {m N rows t : Nat} (hm : FdP m) (hN : N ≤ 12) (hr : rows ≤ 12) (ht : t < 4) (hR : RT1 t flds rcs els nb kn rks rk0 sg0 m N rows) (hord : ∀ k, k < 4096 → ord k = nI (osR k)) (hsz : ∀ S, S < 4096 → szs S = nI (cn S)) (hP : PI pn pm pd) :
    ok (f_R_learn rows0 cols0 prime0 small0 pvs0 fr0 fc0 sm0 flds rcs els nb kn rks rk0 sg0 ord szs pn pm pd (nI t)) (fun r => r.1 = 1 ∧ (∃ R cv, Lr m N rows t (Nb nb t) osR R cv r.2.2.2.2.2.2.2.2.2.2.2.1 r.2.2.2.2.2.2.2.2.2.2.2.2.1 ∧ r.2.2.2.2.2.2.2.2.2.2.1 t = nI R) ∧ r.2.2.2.2.2.2.2.2.2.1 t = 1 ∧ (∀ t', t' ≠ t → r.2.2.2.2.2.2.2.2.2.1 t' = kn t' ∧ r.2.2.2.2.2.2.2.2.2.2.1 t' = rks t') ∧ (∀ q, (∀ S, S < 2 ^ N → q ≠ 4096 * t + S) → r.2.2.2.2.2.2.2.2.2.2.2.1 q = rk0 q ∧ r.2.2.2.2.2.2.2.2.2.2.2.2.1 q = sg0 q) ∧ PI r.2.2.2.2.2.2.2.2.2.2.2.2.2.1 r.2.2.2.2.2.2.2.2.2.2.2.2.2.2.1 r.2.2.2.2.2.2.2.2.2.2.2.2.2.2.2) := by
  obtain ⟨r1, r2, r3, r4, r5⟩ := hR
  rcases r5 with r5 | ⟨r5, R, cv, r6, r7⟩
  · refine ln_okQ (os := osR) hm hN hr ht r1 r2 r3 r5 r4 (fun k hk => ⟨hord k hk, osR_Od.1 k hk⟩) osR_sur hsz hP ?_
    intro x1 x2 x3 x4 x5 x6 x7 x8 rk sg qn qm qd R cv a1 a2 a3 a4
    refine ⟨rfl, ⟨R, cv, a1, pk_us⟩, pk_us, fun t' ht' => ⟨pk_un ht', pk_un ht'⟩, fun q hq => ⟨a3 q hq, a2 q hq⟩, a4⟩
  · unfold f_R_learn
    refine ok_b1 (is_t ht) ?_
    rintro r1 rfl
    refine ok_if (fun q => absurd q (by decide)) (fun _ => ?_)
    refine ok_in (vp_in_nI ht (by decide)) ?_
    rw [nI_clamp (by omega), r5]
    refine ok_if (fun q => absurd q (by decide)) (fun _ => ?_)
    exact ok_some ⟨rfl, ⟨R, cv, r6, r7⟩, r5, fun _ _ => ⟨rfl, rfl⟩, fun _ _ => ⟨rfl, rfl⟩, hP⟩
/-- the fields that may be -/
theorem fld_all : (List.range 252).all (fun p => decide (f_isField (nI p) = some (if p = 0 ∨ p ∈ PR then 1 else 0)) && decide (f_R_isField (nI p) = some (if p = 0 ∨ p ∈ PR then 1 else 0))) = true := by decide +kernel
theorem fld_ok (x : Int32) : (∃ p : Nat, FdP p ∧ x = nI p ∧ p ≤ 251 ∧ f_isField x = some 1 ∧ f_R_isField x = some 1) ∨ (f_isField x = some 0 ∧ f_R_isField x = some 0) := by
  by_cases h0 : x < 0 ∨ 251 < x
  · right
    have hz : ¬ x = 0 := by
      intro e; subst e
      rcases h0 with h | h <;> revert h <;> decide
    have h2 : x < 2 ∨ 251 < x := by
      rcases h0 with h | h
      · left
        have h1 := i_lt.mp h
        have e1 : (0 : Int32).toInt = 0 := rfl
        have e2 : (2 : Int32).toInt = 2 := rfl
        exact i_lt.mpr (by omega)
      · exact Or.inr h
    constructor
    · unfold f_isField ck_if
      rw [if_neg hz]
      by_cases q : x < 2
      · rw [if_pos q]
      · rw [if_neg q]
        rcases h2 with h | h
        · exact absurd h q
        · rw [if_neg]
          have h1 := i_lt.mp h
          intro h3
          have h4 := i_le.mp h3
          omega
    · have hb : f_R_isField x = lo2 (fun k_24 (v2_2 : Int32) (v1_3 : Int32) => ck_if (x < (v2_2 * v2_2)) (ck_z v1_3 <| some v1_3) (ck_if (v1_3 = 0) (ck_z v1_3 <| some v1_3) (ck_nz v2_2 <| ck_jn (fun (s0_9 : Int32) => ck_nm (v2_2 + 1) <| fun x_10 => k_24 x_10 s0_9) <| fun k_46 => ck_if ((x - x / v2_2 * v2_2) = 0) (k_46 0) (k_46 1)))) ck_F 2 0 := by
        unfold f_R_isField
        simp only [ck_jn, ck_if]
        rw [if_neg hz]
        by_cases q : x < 2
        · rw [if_pos q]
        · rw [if_neg q]
          rcases h2 with h | h
          · exact absurd h q
          · rw [if_pos h]
      rw [hb]
      show ck_if (x < 2 * 2) (ck_z 0 <| some 0) (ck_if ((0 : Int32) = 0) (ck_z 0 <| some 0) _) = some 0
      unfold ck_if ck_z
      split
      · rfl
      · rfl
  · have hn : ¬ x < 0 := fun h => h0 (Or.inl h)
    have hm : ¬ 251 < x := fun h => h0 (Or.inr h)
    obtain ⟨p, hp, rfl⟩ := nI_of hn
    have hp2 : p ≤ 251 := by
      rcases Nat.lt_or_ge 251 p with q | q
      · exact absurd ((nI_ltI (a := 251) (by omega) hp).mpr q) hm
      · exact q
    have h := List.all_eq_true.mp fld_all p (List.mem_range.mpr (by omega))
    simp only [Bool.and_eq_true, decide_eq_true_eq] at h
    by_cases q : p = 0 ∨ p ∈ PR
    · rw [if_pos q] at h
      exact Or.inl ⟨p, q, rfl, hp2, h.1, h.2⟩
    · rw [if_neg q] at h
      exact Or.inr h
