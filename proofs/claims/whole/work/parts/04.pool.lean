/-! worlds with a pool of numbers (the reference's Num objects, each with its row of digits) beside explicit cells -/
theorem pw_back {A : Nat → Prop} {D : va_G} {cl : List vw_C} {ws ws' wc w1 : va_W} {H H1 : Heap} (hP : va_P D cl ws H) (hD : va_D A ws) (hk : ∀ q : Nat, q < H.size → ¬ va_A wc H.size q → H1[q]? = H[q]?) (hP1 : va_P D cl w1 H1)
    (ha : ∀ k : Nat, (ws'[k]?).map Prod.fst = (ws[k]?).map Prod.fst)
    (hc : ∀ (k : Nat) (q : Nat × va_E), ws'[k]? = some q → (∃ i : Nat, w1[i]? = some q) ∨ (ws[k]? = some q ∧ ∀ (i : Nat) (e : va_E), wc[i]? ≠ some (q.1, e))) : va_P D cl ws' H1 ∧ va_D A ws' := by
  have hadr : ∀ (k : Nat) (q : Nat × va_E), ws'[k]? = some q → ∃ q0, ws[k]? = some q0 ∧ q0.1 = q.1 := by
    intro k q h
    have h1 := ha k
    rw [h] at h1
    cases h2 : ws[k]? with
    | none => rw [h2] at h1; cases h1
    | some q0 => rw [h2] at h1; exact ⟨q0, rfl, (Option.some.inj h1).symm⟩
  refine ⟨fun k q h => ?_, fun i j p q hi hj e => ?_, fun k q h => ?_⟩
  · rcases hc k q h with ⟨i, hi⟩ | ⟨h1, h2⟩
    · exact hP1 i q hi
    · have h3 := hP k q h1
      refine va_at.kept h3 (hk q.1 (va_at.lt h3) ?_)
      rintro (⟨i, e, he⟩ | he)
      · exact h2 i e he
      · exact absurd (va_at.lt h3) (Nat.not_lt.mpr he)
  · obtain ⟨p0, hp, ep⟩ := hadr i p hi
    obtain ⟨q0, hq, eq⟩ := hadr j q hj
    exact hD.1 i j p0 q0 hp hq (by rw [ep, eq]; exact e)
  · obtain ⟨q0, hq, eq⟩ := hadr k q h
    rw [← eq]; exact hD.2 k q0 hq
theorem pw_off {A : Nat → Prop} {ws wc : va_W} (hD : va_D A ws) (places : List Nat) (hC : places.map (fun i => ws[i]?) = wc.map some) {k : Nat} {q : Nat × va_E} (hk : ws[k]? = some q) (hn : k ∉ places) : ∀ (i : Nat) (e : va_E), wc[i]? ≠ some (q.1, e) := by
  intro i e he
  have h1 : (wc.map some)[i]? = some (some (q.1, e)) := by rw [List.getElem?_map, he]; rfl
  rw [← hC, List.getElem?_map] at h1
  cases h2 : places[i]? with
  | none => rw [h2] at h1; cases h1
  | some p =>
    rw [h2] at h1
    have h3 : ws[p]? = some (q.1, e) := Option.some.inj h1
    have h4 := hD.1 k p q (q.1, e) hk h3 rfl
    exact hn (h4 ▸ List.mem_of_getElem? h2)
theorem pw_free {A : Nat → Prop} {wc : va_W} {H0 H : Heap} {locs : List Loc} (hDc : va_D A wc) (hS : va_S A H0 H locs) (hA : ∀ q, H0.size ≤ q → A q) : ∀ q, va_A wc H.size q → A q := by
  rintro q (⟨k, e, h⟩ | h)
  · exact hDc.2 k _ h
  · exact hA q (Nat.le_trans hS.1 h)
/-- the pool: 200 numbers, first the objects, then their rows of digits -/
def po (cI : ClassId) (NA ND : Nat → Nat) (pn pm : Nat → Int32) (pd : Nat → Nat → Int32) : va_W := (List.range 400).map (fun j => if j < 200 then (NA j, .inr (5, [.ref (ND j), .int (pn j), .int (pm j)])) else (ND (j - 200), .inl (cI, 160, .inl (pd (j - 200)))))
/-- some numbers of it, each with its digits behind it -/
def pc (cI : ClassId) (NA ND : Nat → Nat) (pn pm : Nat → Int32) (pd : Nat → Nat → Int32) : List Nat → va_W
  | [] => []
  | k :: ks => (NA k, .inr (5, [.ref (ND k), .int (pn k), .int (pm k)])) :: (ND k, .inl (cI, 160, .inl (pd k))) :: pc cI NA ND pn pm pd ks
section Pool
variable {A : Nat → Prop} {D : va_G} {cl : List vw_C} {X : va_W} {cI : ClassId} {NA ND : Nat → Nat} {pn pm pn' pm' : Nat → Int32} {pd pd' : Nat → Nat → Int32} {H H1 : Heap}
theorem po_get {j : Nat} (hj : j < 400) : (X ++ po cI NA ND pn pm pd)[X.length + j]? = some (if j < 200 then (NA j, .inr (5, [.ref (ND j), .int (pn j), .int (pm j)])) else (ND (j - 200), .inl (cI, 160, .inl (pd (j - 200))))) := by
  rw [List.getElem?_append_right (Nat.le_add_right _ _), Nat.add_sub_cancel_left]
  unfold po
  rw [List.getElem?_map, List.getElem?_range hj]
  rfl
theorem po_obj {k : Nat} (hk : k < 200) : (X ++ po cI NA ND pn pm pd)[X.length + k]? = some (NA k, .inr (5, [.ref (ND k), .int (pn k), .int (pm k)])) := by
  rw [po_get (by omega), if_pos hk]
theorem po_arr {k : Nat} (hk : k < 200) : (X ++ po cI NA ND pn pm pd)[X.length + (200 + k)]? = some (ND k, .inl (cI, 160, .inl (pd k))) := by
  rw [po_get (by omega), if_neg (by omega), Nat.add_sub_cancel_left]
theorem po_len : (po cI NA ND pn pm pd).length = 400 := by unfold po; rw [List.length_map, List.length_range]
def pp (L : Nat) : List Nat → List Nat
  | [] => []
  | k :: ks => (L + k) :: (L + (200 + k)) :: pp L ks
theorem pp_mem {L : Nat} {ks : List Nat} {j : Nat} : j ∈ pp L ks ↔ ∃ k ∈ ks, j = L + k ∨ j = L + (200 + k) := by
  induction ks with
  | nil => simp [pp]
  | cons a ks ih => simp [pp, ih, or_and_right, exists_or, or_assoc]
theorem po_places {ks : List Nat} (hks : ∀ k ∈ ks, k < 200) : (pp X.length ks).map (fun i => (X ++ po cI NA ND pn pm pd)[i]?) = (pc cI NA ND pn pm pd ks).map some := by
  induction ks with
  | nil => rfl
  | cons a ks ih =>
    simp only [pp, pc, List.map_cons]
    rw [po_obj (hks a List.mem_cons_self), po_arr (hks a List.mem_cons_self), ih (fun k h => hks k (List.mem_cons_of_mem _ h))]
theorem pp_nd {L : Nat} {ks : List Nat} (hks : ∀ k ∈ ks, k < 200) (hn : ks.Nodup) : (pp L ks).Nodup := by
  induction ks with
  | nil => exact List.nodup_nil
  | cons a ks ih =>
    have ha := hks a List.mem_cons_self
    have hn2 := List.nodup_cons.mp hn
    have hks2 : ∀ k ∈ ks, k < 200 := fun k h => hks k (List.mem_cons_of_mem _ h)
    refine List.nodup_cons.mpr ⟨fun h => ?_, List.nodup_cons.mpr ⟨fun h => ?_, ih hks2 hn2.2⟩⟩
    · rcases List.mem_cons.mp h with e | e
      · omega
      · obtain ⟨k, hk, e⟩ := pp_mem.mp e
        have := hks2 k hk
        rcases e with e | e
        · exact hn2.1 ((show a = k by omega) ▸ hk)
        · omega
    · obtain ⟨k, hk, e⟩ := pp_mem.mp h
      have := hks2 k hk
      rcases e with e | e
      · omega
      · exact hn2.1 ((show a = k by omega) ▸ hk)
theorem pw_sub {A : Nat → Prop} {D : va_G} {cl : List vw_C} {ws wc : va_W} {H : Heap} (places : List Nat) (hC : places.map (fun i => ws[i]?) = wc.map some) (hn : places.Nodup) (hP : va_P D cl ws H) (hD : va_D A ws) : va_P D cl wc H ∧ va_D A wc := by
  have key : ∀ (i : Nat) (q : Nat × va_E), wc[i]? = some q → ∃ p, places[i]? = some p ∧ ws[p]? = some q := by
    intro i q he
    have h1 : (wc.map some)[i]? = some (some q) := by rw [List.getElem?_map, he]; rfl
    rw [← hC, List.getElem?_map] at h1
    cases h2 : places[i]? with
    | none => rw [h2] at h1; cases h1
    | some p => rw [h2] at h1; exact ⟨p, rfl, Option.some.inj h1⟩
  refine ⟨fun k q h => ?_, fun i j p q hi hj e => ?_, fun k q h => ?_⟩
  · obtain ⟨p, -, h2⟩ := key k q h; exact hP p q h2
  · obtain ⟨p1, a1, b1⟩ := key i p hi
    obtain ⟨p2, a2, b2⟩ := key j q hj
    have h3 := hD.1 p1 p2 p q b1 b2 e
    subst h3
    exact (List.getElem?_inj (List.getElem?_eq_some_iff.mp a1).1 hn).mp (a1.trans a2.symm)
  · obtain ⟨p, -, h2⟩ := key k q h; exact hD.2 p q h2
theorem po_cut {ks : List Nat} (hks : ∀ k ∈ ks, k < 200) (hn : ks.Nodup) (hP : va_P D cl (X ++ po cI NA ND pn pm pd) H) (hD : va_D A (X ++ po cI NA ND pn pm pd)) : va_P D cl (pc cI NA ND pn pm pd ks) H ∧ va_D A (pc cI NA ND pn pm pd ks) := pw_sub (pp X.length ks) (po_places hks) (pp_nd hks hn) hP hD
theorem pc_get {ks : List Nat} {k : Nat} (h : k ∈ ks) : (∃ i : Nat, (pc cI NA ND pn pm pd ks)[i]? = some (NA k, .inr (5, [.ref (ND k), .int (pn k), .int (pm k)]))) ∧ (∃ i : Nat, (pc cI NA ND pn pm pd ks)[i]? = some (ND k, .inl (cI, 160, .inl (pd k)))) := by
  induction ks with
  | nil => cases h
  | cons a ks ih =>
    rcases List.mem_cons.mp h with e | e
    · subst e; exact ⟨⟨0, rfl⟩, ⟨1, rfl⟩⟩
    · obtain ⟨⟨i, hi⟩, ⟨j, hj⟩⟩ := ih e
      exact ⟨⟨i + 2, hi⟩, ⟨j + 2, hj⟩⟩
theorem po_split {k : Nat} {q : Nat × va_E} (h : (X ++ po cI NA ND pn pm pd)[k]? = some q) : k < X.length ∨ ∃ j, j < 400 ∧ k = X.length + j := by
  rcases Nat.lt_or_ge k X.length with h1 | h1
  · exact Or.inl h1
  · refine Or.inr ⟨k - X.length, ?_, by omega⟩
    rw [List.getElem?_append_right h1] at h
    have := (List.getElem?_eq_some_iff.mp h).1
    rwa [po_len] at this
theorem po_back {ks : List Nat} (hks : ∀ k ∈ ks, k < 200) (hP : va_P D cl (X ++ po cI NA ND pn pm pd) H) (hD : va_D A (X ++ po cI NA ND pn pm pd)) (hk : ∀ q : Nat, q < H.size → ¬ va_A (pc cI NA ND pn pm pd ks) H.size q → H1[q]? = H[q]?) (hP1 : va_P D cl (pc cI NA ND pn' pm' pd' ks) H1)
    (hs : ∀ j, j ∉ ks → pn' j = pn j ∧ pm' j = pm j ∧ pd' j = pd j) : va_P D cl (X ++ po cI NA ND pn' pm' pd') H1 ∧ va_D A (X ++ po cI NA ND pn' pm' pd') := by
  refine pw_back hP hD hk hP1 (fun k => ?_) (fun k q hq => ?_)
  · rcases Nat.lt_or_ge k X.length with h1 | h1
    · rw [List.getElem?_append_left h1, List.getElem?_append_left h1]
    · rw [List.getElem?_append_right h1, List.getElem?_append_right h1]
      unfold po
      rw [List.getElem?_map, List.getElem?_map]
      cases (List.range 400)[k - X.length]? with
      | none => rfl
      | some j => simp only [Option.map_some]; split <;> rfl
  · rcases po_split hq with h1 | ⟨j, hj, rfl⟩
    · have h2 : (X ++ po cI NA ND pn pm pd)[k]? = some q := by
        rw [List.getElem?_append_left h1] at hq ⊢; exact hq
      refine Or.inr ⟨h2, pw_off hD (pp X.length ks) (po_places hks) h2 (fun h => ?_)⟩
      obtain ⟨a, -, e⟩ := pp_mem.mp h
      omega
    · rw [po_get hj] at hq
      by_cases h2 : j < 200
      · rw [if_pos h2] at hq
        by_cases h3 : j ∈ ks
        · left; rw [← Option.some.inj hq]; exact (pc_get h3).1
        · right
          obtain ⟨e1, e2, e3⟩ := hs j h3
          rw [e1, e2] at hq
          have h4 : (X ++ po cI NA ND pn pm pd)[X.length + j]? = some q := by rw [po_obj h2]; exact hq
          refine ⟨h4, pw_off hD (pp X.length ks) (po_places hks) h4 (fun h => ?_)⟩
          obtain ⟨a, ha, e⟩ := pp_mem.mp h
          have := hks a ha
          rcases e with e | e
          · exact h3 ((show j = a by omega) ▸ ha)
          · omega
      · rw [if_neg h2] at hq
        by_cases h3 : (j - 200) ∈ ks
        · left; rw [← Option.some.inj hq]; exact (pc_get h3).2
        · right
          obtain ⟨e1, e2, e3⟩ := hs (j - 200) h3
          rw [e3] at hq
          have h4 : (X ++ po cI NA ND pn pm pd)[X.length + j]? = some q := by rw [po_get hj, if_neg h2]; exact hq
          refine ⟨h4, pw_off hD (pp X.length ks) (po_places hks) h4 (fun h => ?_)⟩
          obtain ⟨a, ha, e⟩ := pp_mem.mp h
          have := hks a ha
          rcases e with e | e
          · omega
          · exact h3 ((show j - 200 = a by omega) ▸ ha)
theorem po_setm {k : Nat} (hk : k < 200) (v : Int32) : (X ++ po cI NA ND pn pm pd).set (X.length + k) (NA k, .inr (5, [.ref (ND k), .int (pn k), .int v])) = X ++ po cI NA ND pn (upd pm k v) pd := by
  apply List.ext_getElem?
  intro i
  rw [List.getElem?_set]
  by_cases h : X.length + k = i
  · subst h
    rw [if_pos rfl, po_obj hk, if_pos (by rw [List.length_append, po_len]; omega)]
    simp [upd]
  · rw [if_neg h]
    rcases Nat.lt_or_ge i X.length with h1 | h1
    · rw [List.getElem?_append_left h1, List.getElem?_append_left h1]
    · rw [List.getElem?_append_right h1, List.getElem?_append_right h1]
      unfold po
      rw [List.getElem?_map, List.getElem?_map]
      rcases Nat.lt_or_ge (i - X.length) 400 with h2 | h2
      · rw [List.getElem?_range h2]
        simp only [Option.map_some]
        split
        · have h3 : i - X.length ≠ k := by omega
          simp [upd, h3]
        · rfl
      · rw [List.getElem?_eq_none (by rw [List.length_range]; exact h2)]
        rfl
end Pool
