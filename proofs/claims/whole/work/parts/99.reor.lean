theorem re_P {D : va_G} {cl : List vw_C} {ws ws' : va_W} {H : Heap} (g : Nat → Nat) (h : ∀ (k : Nat) (x : Nat × va_E), ws'[k]? = some x → ws[g k]? = some x) (hP : va_P D cl ws H) : va_P D cl ws' H := fun k x hx => hP _ x (h k x hx)
theorem re_D {A : Nat → Prop} {ws ws' : va_W} (g : Nat → Nat) (h : ∀ (k : Nat) (x : Nat × va_E), ws'[k]? = some x → ws[g k]? = some x) (hi : ∀ i j, i < ws'.length → j < ws'.length → g i = g j → i = j) (hD : va_D A ws) : va_D A ws' := by
  refine ⟨fun i j p q h1 h2 e => ?_, fun k q h1 => hD.2 _ _ (h k q h1)⟩
  exact hi i j (List.getElem?_eq_some_iff.mp h1).1 (List.getElem?_eq_some_iff.mp h2).1 (hD.1 _ _ p q (h i p h1) (h j q h2) e)
theorem pl_get {cI : ClassId} {NA ND : Nat → Nat} {n : Nat} : ∀ k, k < n → (pl cI NA ND n)[2 * k]? = some (NA k, .inr (5, [.ref (ND k), .int 0, .int 0])) ∧ (pl cI NA ND n)[2 * k + 1]? = some (ND k, .inl (cI, 160, .inl (fun _ => 0))) := by
  induction n with
  | zero => intro k hk; omega
  | succ n ih =>
    intro k hk
    show (pl cI NA ND n ++ nc cI NA ND n)[2 * k]? = _ ∧ (pl cI NA ND n ++ nc cI NA ND n)[2 * k + 1]? = _
    by_cases q : k < n
    · rw [List.getElem?_append_left (by rw [pl_len]; omega), List.getElem?_append_left (by rw [pl_len]; omega)]
      exact ih k q
    · obtain rfl : k = n := by omega
      rw [List.getElem?_append_right (by rw [pl_len]; omega), List.getElem?_append_right (by rw [pl_len]; omega), pl_len, Nat.sub_self, Nat.add_sub_cancel_left]
      exact ⟨rfl, rfl⟩
def gB (k : Nat) : Nat := if k = 0 then 0 else if k < 21 then 16 + k else if k < 221 then (if k < 213 then 37 + 2 * (k - 21) else 1 + 2 * (k - 213)) else (if k < 413 then 38 + 2 * (k - 221) else 2 + 2 * (k - 413))
theorem gB_inj {i j : Nat} (hi : i < 421) (hj : j < 421) (h : gB i = gB j) : i = j := by
  unfold gB at h
  split at h <;> split at h <;> (try split at h) <;> (try split at h) <;> (try split at h) <;> (try split at h) <;> (try split at h) <;> (try split at h) <;> (try split at h) <;> (try split at h) <;> omega
theorem arrV_cg {cA : ClassId} {n : Nat} {f g : Nat → Value} (h : ∀ k, k < n → f k = g k) : arrV cA n f = arrV cA n g := by
  unfold arrV
  congr 2
  funext j
  exact h j.val j.isLt
theorem vq_cg {cA : ClassId} {n : Nat} {f g : Nat → Option Nat} (h : ∀ k, k < n → f k = g k) : vp_cell cA (n, .inr (.inr (.inr (.inr f)))) = vp_cell cA (n, .inr (.inr (.inr (.inr g)))) := by
  rw [vp_cell_q, vp_cell_q]
  exact arrV_cg (fun k hk => by rw [h k hk])
theorem wB_tot {D : va_G} {cl : List vw_C} {q : Nat → Nat} {cI cJ cB cZ cN : ClassId} {f1 f2 g1 g2 : Nat → Option Nat} {t : va_W} {H : Heap} (h1 : ∀ k, k < 156 → f1 k = g1 k) (h2 : ∀ k, k < 36 → f2 k = g2 k) (hP : va_P D cl (wB q cI cJ cB cZ cN f1 f2 ++ t) H) : va_P D cl (wB q cI cJ cB cZ cN g1 g2 ++ t) H := by
  intro k x hx
  have e : wB q cI cJ cB cZ cN g1 g2 ++ t = ((wB q cI cJ cB cZ cN f1 f2 ++ t).set 17 (q 17, .inl (cN, 156, .inr (.inr (.inr (.inr g1)))))).set 22 (q 22, .inl (cN, 36, .inr (.inr (.inr (.inr g2))))) := rfl
  by_cases k1 : k = 22
  · subst k1
    obtain rfl : (q 22, .inl (cN, 36, .inr (.inr (.inr (.inr g2))))) = x := Option.some.inj hx
    have h : H[q 22]? = some (vp_cell cN (36, .inr (.inr (.inr (.inr f2))))) := hP 22 (q 22, .inl (cN, 36, .inr (.inr (.inr (.inr f2))))) rfl
    rw [vq_cg h2] at h
    exact h
  · by_cases k2 : k = 17
    · subst k2
      obtain rfl : (q 17, .inl (cN, 156, .inr (.inr (.inr (.inr g1))))) = x := Option.some.inj hx
      have h : H[q 17]? = some (vp_cell cN (156, .inr (.inr (.inr (.inr f1))))) := hP 17 (q 17, .inl (cN, 156, .inr (.inr (.inr (.inr f1))))) rfl
      rw [vq_cg h1] at h
      exact h
    · rw [e, List.getElem?_set_ne (fun c => k1 c.symm), List.getElem?_set_ne (fun c => k2 c.symm)] at hx
      exact hP k x hx
theorem wB_totD {A : Nat → Prop} {q : Nat → Nat} {cI cJ cB cZ cN : ClassId} {f1 f2 : Nat → Option Nat} (g1 g2 : Nat → Option Nat) {t : va_W} (hD : va_D A (wB q cI cJ cB cZ cN f1 f2 ++ t)) : va_D A (wB q cI cJ cB cZ cN g1 g2 ++ t) := by
  have e : wB q cI cJ cB cZ cN g1 g2 ++ t = ((wB q cI cJ cB cZ cN f1 f2 ++ t).set 17 (q 17, .inl (cN, 156, .inr (.inr (.inr (.inr g1)))))).set 22 (q 22, .inl (cN, 36, .inr (.inr (.inr (.inr g2))))) := rfl
  rw [e]
  have h1 := hD.set (p := 17) (a := q 17) (e0 := .inl (cN, 156, .inr (.inr (.inr (.inr f1))))) (e := .inl (cN, 156, .inr (.inr (.inr (.inr g1))))) rfl
  exact h1.set (p := 22) (a := q 22) (e0 := .inl (cN, 36, .inr (.inr (.inr (.inr f2))))) (e := .inl (cN, 36, .inr (.inr (.inr (.inr g2))))) rfl
