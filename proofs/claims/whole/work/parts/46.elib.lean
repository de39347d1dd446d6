theorem ol_mem {O : Nat → Nat → Int} {r : Nat} {q : Nat → Int} (h : q ∈ ol O r) : ∃ j, j < r ∧ q = O j := by
  induction r with
  | zero => simp [ol] at h
  | succ r ih =>
    simp only [ol] at h
    rcases List.mem_cons.mp h with e | e
    · exact ⟨r, by omega, e⟩
    · obtain ⟨j, h1, h2⟩ := ih e; exact ⟨j, by omega, h2⟩
theorem ol_len {O : Nat → Nat → Int} {r : Nat} : (ol O r).length = r := by
  induction r with
  | zero => rfl
  | succ r ih => simp [ol, ih]
theorem ol_congr {O O' : Nat → Nat → Int} {r : Nat} (h : ∀ j, j < r → O j = O' j) : ol O r = ol O' r := by
  induction r with
  | zero => rfl
  | succ r ih => simp only [ol]; rw [ih (fun j hj => h j (by omega)), h r (by omega)]
theorem Ez_0 {n rows : Nat} {pv : Nat → Nat} {O : Nat → Nat → Int} : Ez n rows 0 pv O O := by
  refine ⟨by omega, fun i hi => absurd hi (by omega), fun i j hi => absurd hi (by omega), fun i j _ hj => absurd hj (by omega), fun i hi => absurd hi (by omega), ?_, fun i hi => absurd hi (by omega), fun i _ _ => ⟨1, 1, by decide, by decide, fun S => rfl⟩⟩
  have h : msk n (inP 0 pv) = 0 := by
    apply Nat.eq_of_testBit_eq
    intro e
    rw [msk_bit, Nat.zero_testBit]
    simp [inP]
  rw [h]
  simp [ol, wl, vac]
theorem Ez_swap {n rows r i : Nat} {pv : Nat → Nat} {E O E' O' : Nat → Nat → Int} (h : Ez n rows r pv E O) (hr : r < rows) (hi : r ≤ i) (hir : i < rows) (hE : ∀ k, k < rows → E' k = if k = r then E i else if k = i then E r else E k) (hO : ∀ k, k < rows → O' k = if k = r then O i else if k = i then O r else O k) : Ez n rows r pv E' O' := by
  obtain ⟨h1, h2, h3, h4, h5, h6, h7, h8⟩ := h
  have hol : ol O' r = ol O r := ol_congr (fun j hj => by rw [hO j (by omega), if_neg (by omega), if_neg (by omega)])
  have hsm : ∀ k, k < r → E' k = E k := fun k hk => by rw [hE k (by omega), if_neg (by omega), if_neg (by omega)]
  refine ⟨h1, h2, h3, ?_, ?_, by rw [hol]; exact h6, ?_, ?_⟩
  · intro k j hk hj hkj
    rw [hE k hk]
    by_cases q : k = r
    · rw [if_pos q]; exact h4 i j hir hj (by omega)
    · rw [if_neg q]
      by_cases q2 : k = i
      · rw [if_pos q2]; exact h4 r j hr hj (by omega)
      · rw [if_neg q2]; exact h4 k j hk hj hkj
  · intro k hk; rw [hsm k hk]; exact h5 k hk
  · intro k hk S; rw [hol, hsm k hk]; exact h7 k hk S
  · intro k hk1 hk2
    rw [hol, hE k hk2, hO k hk2]
    by_cases q : k = r
    · rw [if_pos q, if_pos q]; exact h8 i hi hir
    · rw [if_neg q, if_neg q]
      by_cases q2 : k = i
      · rw [if_pos q2, if_pos q2]; exact h8 r (Nat.le_refl r) hr
      · rw [if_neg q2, if_neg q2]; exact h8 k hk1 hk2
theorem Ez_bd {n rows r C : Nat} {pv : Nat → Nat} {E O : Nat → Nat → Int} (h : Ez n rows r pv E O) (hO : ∀ k, k < rows → ∀ e, e < n → (O k e).natAbs ≤ C) (hnC : 1 ≤ n * C) {i : Nat} (hi : i < rows) (hp : rg (E i) 0 n = 1) : ∀ e, e < n → (E i e).natAbs ≤ (n * C) ^ (r + 1) := by
  obtain ⟨h1, h2, h3, h4, h5, h6, h7, h8⟩ := h
  have hol : ∀ q ∈ ol O r, ∀ e, e < n → (q e).natAbs ≤ C := by
    intro q hq
    obtain ⟨j, hj, rfl⟩ := ol_mem hq
    exact hO j (by omega)
  have hb : ∀ S, (wl n (ol O r) S).natAbs ≤ (n * C) ^ r := fun S => by
    have := wl_bd hol S
    rw [ol_len] at this; exact this
  have hle : (n * C) ^ r ≤ (n * C) ^ (r + 1) := Nat.pow_le_pow_right hnC (by omega)
  generalize hW : wl n (ol O r) = W at *
  generalize hPm : msk n (inP r pv) = P at *
  by_cases hir : i < r
  · -- a pivot's row
    have key : ∀ e, e < n → W P * E i (0 + e) = E i (pv i) * (if e = pv i then W P else if inP r pv e = true then 0 else - (sg P e * sg (tg P e) (pv i) * W (tg (tg P e) (pv i)))) := by
      intro e he
      rw [Nat.zero_add]
      by_cases q : e = pv i
      · rw [if_pos q, q, Int.mul_comm]
      · rw [if_neg q]
        by_cases q2 : inP r pv e = true
        · rw [if_pos q2]
          obtain ⟨j, hj, rfl⟩ := inP_iff.mp q2
          rw [h4 i j hi hj (fun e1 => q (by rw [e1]))]; simp
        · rw [if_neg q2]
          have hbe : P.testBit e = false := by rw [← hPm, msk_bit]; simp [q2]
          have h9 := h7 i hir (tg P e)
          rw [wd_at he _ _ hbe] at h9
          have h10 : sm n (fun x => if P.testBit x = true then sg (tg P e) x * E i x * W (tg (tg P e) x) else 0) = sg (tg P e) (pv i) * E i (pv i) * W (tg (tg P e) (pv i)) := by
            rw [← sm_one (n := n) (h2 i hir) (sg (tg P e) (pv i) * E i (pv i) * W (tg (tg P e) (pv i)))]
            refine sm_congr (fun x hx => ?_)
            by_cases q3 : x = pv i
            · subst q3
              have : P.testBit (pv i) = true := by rw [← hPm, msk_bit, inP_iff.mpr ⟨i, hir, rfl⟩]; simp [h2 i hir]
              rw [if_pos this, if_pos rfl]
            · rw [if_neg q3]
              by_cases q4 : P.testBit x = true
              · rw [if_pos q4]
                rw [← hPm, msk_bit] at q4
                simp at q4
                obtain ⟨j, hj, rfl⟩ := inP_iff.mp q4.2
                rw [h4 i j hi hj (fun e1 => q3 (by rw [e1]))]; simp
              · rw [if_neg q4]
          rw [h10] at h9
          have hs := sg_sq P e
          grind
    intro e he
    have h11 := prim_bd h6 (h5 i hir) key hp e he
    rw [Nat.zero_add] at h11
    refine Nat.le_trans h11 (Nat.le_trans ?_ hle)
    split
    · exact hb P
    · split
      · simp
      · rw [Int.natAbs_neg, Int.natAbs_mul, Int.natAbs_mul, sg_abs, sg_abs, Nat.one_mul]
        exact hb _
  · obtain ⟨u, v, hu, hv, huv⟩ := h8 i (by omega) hi
    have key : ∀ e, e < n → (u * W P) * E i (0 + e) = v * (if inP r pv e = true then 0 else sg P e * wd n (O i) W (tg P e)) := by
      intro e he
      rw [Nat.zero_add]
      by_cases q2 : inP r pv e = true
      · rw [if_pos q2]
        obtain ⟨j, hj, rfl⟩ := inP_iff.mp q2
        rw [h4 i j hi hj (by omega)]; simp
      · rw [if_neg q2]
        have q3 : inP r pv e = false := by simpa using q2
        have h9 := huv (tg P e)
        rw [← hPm, wd_piv he q3 (fun j hj => h4 i j hi hj (by omega)), hPm] at h9
        have hs := sg_sq P e
        have e1 : v * (sg P e * wd n (O i) W (tg P e)) = sg P e * (v * wd n (O i) W (tg P e)) := by grind
        rw [e1, ← h9]
        grind
    intro e he
    have h11 := prim_bd (Int.mul_ne_zero hu h6) hv key hp e he
    rw [Nat.zero_add] at h11
    refine Nat.le_trans h11 ?_
    split
    · simp
    · rw [Int.natAbs_mul, sg_abs, Nat.one_mul]
      have h12 := wd_bd (n := n) (hO i hi) hb (tg P e)
      rw [Nat.pow_succ, Nat.mul_comm ((n * C) ^ r), Nat.mul_assoc]
      exact h12
