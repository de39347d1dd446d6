def hB (q : Nat → Nat) : Nat → Nat := fun k => if k = 0 then q 0 else q (16 + k)
def NB (q NA : Nat → Nat) : Nat → Nat := fun k => if k < 192 then NA k else q (1 + 2 * (k - 192))
def NC (q ND : Nat → Nat) : Nat → Nat := fun k => if k < 192 then ND k else q (2 + 2 * (k - 192))
set_option maxHeartbeats 4000000 in
theorem re_g {q NA ND : Nat → Nat} {cI cJ cB cZ cN : ClassId} : ∀ (k : Nat) (x : Nat × va_E), (xw cI cJ cB cZ cN (hB q) (NB q NA) 0 0 0 (fun _ => 0) (fun _ => 0) (fun _ => 0) (fun _ => 0) (fun _ => 0) (fun _ => 0) (fun _ => 0) (fun _ => 0) (fun _ => 0) (fun _ => 0) (fun _ => 0) (fun _ => 0) (fun _ => 0) (fun _ => 0) (fun _ => 0) (fun _ => 0) (fun _ => 0) (fun _ => 0) ++ po cI (NB q NA) (NC q ND) (fun _ => 0) (fun _ => 0) (fun _ _ => 0))[k]? = some x → (wB q cI cJ cB cZ cN (fun i => some (NB q NA i)) (fun i => some (NB q NA (156 + i))) ++ pl cI NA ND 192)[gB k]? = some x := by
  intro k x hx
  by_cases k0 : k < 21
  · match k, k0 with
    | 0, _ => exact hx
    | 1, _ => exact hx
    | 2, _ => exact hx
    | 3, _ => exact hx
    | 4, _ => exact hx
    | 5, _ => exact hx
    | 6, _ => exact hx
    | 7, _ => exact hx
    | 8, _ => exact hx
    | 9, _ => exact hx
    | 10, _ => exact hx
    | 11, _ => exact hx
    | 12, _ => exact hx
    | 13, _ => exact hx
    | 14, _ => exact hx
    | 15, _ => exact hx
    | 16, _ => exact hx
    | 17, _ => exact hx
    | 18, _ => exact hx
    | 19, _ => exact hx
    | 20, _ => exact hx
    | k' + 21, k1 => exact absurd k1 (by omega)
  · obtain ⟨j, rfl⟩ : ∃ j, k = 21 + j := ⟨k - 21, by omega⟩
    have hj : j < 400 := by
      have h := (List.getElem?_eq_some_iff.mp hx).1
      rw [List.length_append] at h
      have e1 : (xw cI cJ cB cZ cN (hB q) (NB q NA) 0 0 0 (fun _ => 0) (fun _ => 0) (fun _ => 0) (fun _ => 0) (fun _ => 0) (fun _ => 0) (fun _ => 0) (fun _ => 0) (fun _ => 0) (fun _ => 0) (fun _ => 0) (fun _ => 0) (fun _ => 0) (fun _ => 0) (fun _ => 0) (fun _ => 0) (fun _ => 0) (fun _ => 0)).length = 21 := rfl
      have e2 : (po cI (NB q NA) (NC q ND) (fun _ => 0) (fun _ => 0) (fun _ _ => 0)).length = 400 := by unfold po; rw [List.length_map, List.length_range]
      omega
    have h := (po_get (X := xw cI cJ cB cZ cN (hB q) (NB q NA) 0 0 0 (fun _ => 0) (fun _ => 0) (fun _ => 0) (fun _ => 0) (fun _ => 0) (fun _ => 0) (fun _ => 0) (fun _ => 0) (fun _ => 0) (fun _ => 0) (fun _ => 0) (fun _ => 0) (fun _ => 0) (fun _ => 0) (fun _ => 0) (fun _ => 0) (fun _ => 0) (fun _ => 0)) (cI := cI) (NA := NB q NA) (ND := NC q ND) (pn := (fun _ => 0)) (pm := (fun _ => 0)) (pd := fun _ _ => 0) hj).symm.trans hx
    have h := Option.some.inj h
    subst h
    by_cases j0 : j < 200
    · rw [if_pos j0]
      by_cases j1 : j < 192
      · have e : gB (21 + j) = 37 + 2 * j := by unfold gB; rw [if_neg (by omega), if_neg (by omega), if_pos (by omega), if_pos (by omega)]; omega
        rw [e, List.getElem?_append_right (show 37 ≤ 37 + 2 * j by omega)]
        show (pl cI NA ND 192)[37 + 2 * j - 37]? = _
        rw [Nat.add_sub_cancel_left, (pl_get j j1).1]
        unfold NB NC
        rw [if_pos j1, if_pos j1]
      · obtain ⟨m, rfl⟩ : ∃ m, j = 192 + m := ⟨j - 192, by omega⟩
        match m, (show m < 8 by omega) with
        | 0, _ => rfl
        | 1, _ => rfl
        | 2, _ => rfl
        | 3, _ => rfl
        | 4, _ => rfl
        | 5, _ => rfl
        | 6, _ => rfl
        | 7, _ => rfl
    · rw [if_neg j0]
      obtain ⟨i, rfl⟩ : ∃ i, j = 200 + i := ⟨j - 200, by omega⟩
      rw [Nat.add_sub_cancel_left]
      by_cases j1 : i < 192
      · have e : gB (21 + (200 + i)) = 37 + (2 * i + 1) := by unfold gB; rw [if_neg (by omega), if_neg (by omega), if_neg (by omega), if_pos (by omega)]; omega
        rw [e, List.getElem?_append_right (show 37 ≤ 37 + (2 * i + 1) by omega)]
        show (pl cI NA ND 192)[37 + (2 * i + 1) - 37]? = _
        rw [Nat.add_sub_cancel_left, (pl_get i j1).2]
        unfold NC
        rw [if_pos j1]
      · obtain ⟨m, rfl⟩ : ∃ m, i = 192 + m := ⟨i - 192, by omega⟩
        match m, (show m < 8 by omega) with
        | 0, _ => rfl
        | 1, _ => rfl
        | 2, _ => rfl
        | 3, _ => rfl
        | 4, _ => rfl
        | 5, _ => rfl
        | 6, _ => rfl
        | 7, _ => rfl
/-- the reference's world as its methods want it -/
theorem re_w {D : va_G} {cl : List vw_C} {A : Nat → Prop} {H : Heap} {q NA ND : Nat → Nat} {cI cJ cB cZ cN : ClassId} (hP : va_P D cl (wB q cI cJ cB cZ cN (fq NA 0 156) (fq NA 156 36) ++ pl cI NA ND 192) H) (hD : va_D A (wB q cI cJ cB cZ cN (fq NA 0 156) (fq NA 156 36) ++ pl cI NA ND 192)) : va_P D cl (xw cI cJ cB cZ cN (hB q) (NB q NA) 0 0 0 (fun _ => 0) (fun _ => 0) (fun _ => 0) (fun _ => 0) (fun _ => 0) (fun _ => 0) (fun _ => 0) (fun _ => 0) (fun _ => 0) (fun _ => 0) (fun _ => 0) (fun _ => 0) (fun _ => 0) (fun _ => 0) (fun _ => 0) (fun _ => 0) (fun _ => 0) (fun _ => 0) ++ po cI (NB q NA) (NC q ND) (fun _ => 0) (fun _ => 0) (fun _ _ => 0)) H ∧ va_D A (xw cI cJ cB cZ cN (hB q) (NB q NA) 0 0 0 (fun _ => 0) (fun _ => 0) (fun _ => 0) (fun _ => 0) (fun _ => 0) (fun _ => 0) (fun _ => 0) (fun _ => 0) (fun _ => 0) (fun _ => 0) (fun _ => 0) (fun _ => 0) (fun _ => 0) (fun _ => 0) (fun _ => 0) (fun _ => 0) (fun _ => 0) (fun _ => 0) ++ po cI (NB q NA) (NC q ND) (fun _ => 0) (fun _ => 0) (fun _ _ => 0)) := by
  have h1 : ∀ k, k < 156 → fq NA 0 156 k = some (NB q NA k) := by
    intro k hk; unfold fq NB; rw [if_pos hk, if_pos (by omega), Nat.zero_add]
  have h2 : ∀ k, k < 36 → fq NA 156 36 k = some (NB q NA (156 + k)) := by
    intro k hk; unfold fq NB; rw [if_pos hk, if_pos (by omega)]
  refine ⟨re_P gB re_g (wB_tot h1 h2 hP), re_D gB re_g (fun i j hi hj e => ?_) (wB_totD _ _ hD)⟩
  have e1 : (xw cI cJ cB cZ cN (hB q) (NB q NA) 0 0 0 (fun _ => 0) (fun _ => 0) (fun _ => 0) (fun _ => 0) (fun _ => 0) (fun _ => 0) (fun _ => 0) (fun _ => 0) (fun _ => 0) (fun _ => 0) (fun _ => 0) (fun _ => 0) (fun _ => 0) (fun _ => 0) (fun _ => 0) (fun _ => 0) (fun _ => 0) (fun _ => 0) ++ po cI (NB q NA) (NC q ND) (fun _ => 0) (fun _ => 0) (fun _ _ => 0)).length = 421 := by
    rw [List.length_append]; unfold po; rw [List.length_map, List.length_range]; rfl
  rw [e1] at hi hj
  exact gB_inj hi hj e
