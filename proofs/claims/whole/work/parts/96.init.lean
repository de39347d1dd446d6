/-- what the constructors leave -/
theorem PI_0 : PI (fun _ => 0) (fun _ => 0) (fun _ _ => 0) := by
  refine ⟨fun _ => 0, fun k _ => ⟨0, nI_0.symm, fun j hj => absurd hj (by omega), ?_, Or.inl rfl, fun _ => rfl, by simp [nv]⟩, fun q _ => ?_⟩
  · intro h; omega
  · show sz 0 150; unfold sz; decide +kernel
theorem OX_0 : OX 0 (fun _ => 0) (upd (fun _ => 0) (1 : Int32).toNatClampNeg 1) := by
  refine OX_of (by decide) (by decide +kernel) (fun k hk => ?_) (fun s hs => ?_)
  · match k, hk with
    | 0, _ => decide +kernel
    | 1, _ => decide +kernel
  · obtain rfl : s = 0 := by simpa using hs
    decide +kernel
def LI (i : Nat) (n : Int32) (w z : Nat → Int32) : Prop := n = nI (LL i).length ∧ (∀ k, k < (LL i).length → w k = nI ((LL i).getD k 0)) ∧ (∀ S, S ∈ LL i → z S = nI (cn S)) ∧ (i = 0 → z 0 = 0)
theorem LI_0 : LI 0 0 (fun _ => 0) (fun _ => 0) := ⟨nI_0.symm, fun k hk => absurd hk (Nat.not_lt_zero k), fun S hS => absurd hS List.not_mem_nil, fun _ => rfl⟩
theorem LL_pre {i : Nat} (h : i ≤ 13) : ∃ t, LL 13 = LL i ++ t := by
  have : ∀ d i, i + d = 13 → ∃ t, LL 13 = LL i ++ t := by
    intro d
    induction d with
    | zero => intro i hi; exact ⟨[], by rw [show i = 13 by omega, List.append_nil]⟩
    | succ d ih =>
      intro i hi
      obtain ⟨t, ht⟩ := ih (i + 1) (by omega)
      refine ⟨lss i 0 0 ++ t, ?_⟩
      rw [ht]
      show (LL i ++ lss i 0 0) ++ t = _
      rw [List.append_assoc]
  exact this (13 - i) i (by omega)
theorem LI_s {i : Nat} {n : Int32} {w z : Nat → Int32} (hi : i ≤ 12) (h : LI i n w z) : ok (f_R_list12 4096 w 4096 z (nI i) 0 0 n) (fun r => LI (i + 1) r.1 r.2.1 r.2.2) := by
  obtain ⟨rfl, h1, h2, h3⟩ := h
  have hc := LL_chk
  simp only [Bool.and_eq_true, decide_eq_true_eq] at hc
  obtain ⟨t, ht⟩ := LL_pre (i := i + 1) (by omega)
  have hl : (LL (i + 1)).length = (LL i).length + (lss i 0 0).length := by show (LL i ++ lss i 0 0).length = _; rw [List.length_append]
  have hle : (LL (i + 1)).length ≤ 4096 := by
    have := hc.1.1.1
    rw [ht, List.length_append] at this
    omega
  have hm : ∀ x, x ∈ lss i 0 0 → x < 4096 := by
    intro x hx
    refine of_decide_eq_true (List.all_eq_true.mp hc.1.1.2 x ?_)
    rw [ht]
    exact List.mem_append_left _ (List.mem_append_right _ hx)
  have hcn : ∀ x, x ∈ lss i 0 0 → cn x = i := by
    intro x hx
    exact of_decide_eq_true (List.all_eq_true.mp (List.all_eq_true.mp hc.2 i (List.mem_range.mpr (by omega))) x hx)
  have hg : ∀ k, k < (lss i 0 0).length → (lss i 0 0).getD k 0 ∈ lss i 0 0 := by
    intro k hk
    rw [List.getD_eq_getElem?_getD, List.getElem?_eq_getElem hk]
    exact List.getElem_mem _
  refine ok_mono (l_top hi (by omega) (fun k hk => hm _ (hg k hk))) ?_
  rintro r ⟨e1, e2, e3, e4⟩
  refine ⟨by rw [e1, hl], fun k hk => ?_, fun S hS => ?_, fun q => absurd q (by omega)⟩
  · rw [e2]
    show _ = nI ((LL i ++ lss i 0 0).getD k 0)
    by_cases q : k < (LL i).length
    · rw [wrl_out (Or.inl q), h1 k q, List.getD_eq_getElem?_getD, List.getD_eq_getElem?_getD, List.getElem?_append_left q]
    · obtain ⟨d, rfl⟩ : ∃ d, k = (LL i).length + d := ⟨k - (LL i).length, by omega⟩
      rw [wrl_in (by omega), List.getD_eq_getElem?_getD, List.getD_eq_getElem?_getD, List.getElem?_append_right (by omega), Nat.add_sub_cancel_left]
  · by_cases q0 : i = 0
    · subst q0
      rw [e3 rfl]
      have hS' : S ∈ lss 0 0 0 := by
        rcases List.mem_append.mp (show S ∈ LL 0 ++ lss 0 0 0 from hS) with q | q
        · exact absurd q List.not_mem_nil
        · exact q
      have hs0 : lss 0 0 0 = [0] := by decide +kernel
      rw [hs0] at hS'
      obtain rfl := List.mem_singleton.mp hS'
      rw [h3 rfl]; decide +kernel
    · obtain ⟨g1, g2⟩ := e4 (by omega)
      by_cases q : S ∈ lss i 0 0
      · obtain ⟨k, hk, rfl⟩ := List.getElem_of_mem q
        have e := g1 k hk
        rw [List.getD_eq_getElem?_getD, List.getElem?_eq_getElem hk] at e
        rw [hcn _ q]
        exact e
      · rw [g2 S (fun k hk e => q (by rw [e]; exact hg k hk))]
        rcases List.mem_append.mp (show S ∈ LL i ++ lss i 0 0 from hS) with q' | q'
        · exact h2 S q'
        · exact absurd q' q
theorem LI_e {n : Int32} {w z : Nat → Int32} (h : LI 13 n w z) : (∀ k, k < 4096 → w k = nI (osR k)) ∧ ∀ S, S < 4096 → z S = nI (cn S) := by
  obtain ⟨-, h1, h2, -⟩ := h
  have hc := LL_chk
  simp only [Bool.and_eq_true, decide_eq_true_eq] at hc
  refine ⟨fun k hk => h1 k (by rw [hc.1.1.1]; exact hk), fun S hS => h2 S ?_⟩
  obtain ⟨k, hk, rfl⟩ := osR_sur S hS
  unfold osR
  rw [List.getD_eq_getElem?_getD, List.getElem?_eq_getElem (by rw [hc.1.1.1]; exact hk)]
  exact List.getElem_mem _
/-- J of what the constructors leave -/
theorem J_init {w z : Nat → Int32} {n : Int32} (h : LI 13 n w z) : J (KS.mk' 0 (fun _ => 0) (upd (fun _ => 0) (1 : Int32).toNatClampNeg 1) (fun _ => 0) (fun _ => 0) (fun _ => 0) (fun _ => 0) (fun _ => 0) (fun _ => 0) (fun _ => 0) (fun _ => 0) (fun _ => 0) (fun _ => 0) (fun _ _ => 0) (fun _ _ => 0) (fun _ _ => 0) (fun _ _ => 0) (fun _ _ => 0) (fun _ _ => 0)) (RS.mk' 0 0 0 (fun _ => 0) (fun _ => 0) (fun _ => 0) (fun _ => 0) (fun _ => 0) (fun _ => 0) (fun _ => 0) (fun _ => 0) (fun _ => 0) (fun _ => 0) (fun _ => 0) (fun _ => 0) (fun _ => 0) w z (fun _ => 0) (fun _ => 0) (fun _ => 0) (fun _ => 0) (fun _ => 0) (fun _ _ => 0)) := by
  obtain ⟨h1, h2⟩ := LI_e h
  refine ⟨⟨⟨0, by decide, nI_0.symm, OX_0⟩, h1, h2, PI_0⟩, fun t ht => ⟨0, 0, 0, Or.inl rfl, by decide, by decide, nI_0.symm, nI_0.symm, nI_0.symm, fun i j hi _ => absurd hi (Nat.not_lt_zero i), Or.inl rfl, nI_0.symm, nI_0.symm, nI_0.symm, fun i j hi _ => absurd hi (Nat.not_lt_zero i), Or.inl rfl⟩⟩
