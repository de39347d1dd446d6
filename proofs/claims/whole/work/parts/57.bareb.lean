/-! exact elimination (each step divided by the pivot before) -/
def Bz (N n r : Nat) (t : Nat → Nat) (D s : Int) (E O : Nat → Nat → Int) : Prop :=
  D ≠ 0 ∧ (s = 1 ∨ s = -1) ∧ wl N (ol O r) (msk N (inP r t)) = s * D ∧
  (∀ i j, r ≤ i → i < n → j < r → E i (t j) = 0) ∧
  ∀ i, r ≤ i → i < n → ∀ S, wd N (E i) (wl N (ol O r)) S = D * wd N (O i) (wl N (ol O r)) S
theorem Bz_0 {N n : Nat} {t : Nat → Nat} {O : Nat → Nat → Int} : Bz N n 0 t 1 1 O O := by
  refine ⟨by decide, Or.inl rfl, ?_, fun _ j _ _ hj => absurd hj (by omega), fun i _ _ S => by rw [Int.one_mul]⟩
  have h : msk N (inP 0 t) = 0 := by
    apply Nat.eq_of_testBit_eq
    intro e
    rw [msk_bit, Nat.zero_testBit]
    simp [inP]
  rw [h]
  simp [ol, wl, vac]
theorem Bz_val {N n r : Nat} {t : Nat → Nat} {D s : Int} {E O : Nat → Nat → Int} (h : Bz N n r t D s E O) {i c : Nat} (hi : r ≤ i) (hin : i < n) (hc : c < N) (hcP : inP r t c = false) : s * sg (msk N (inP r t)) c * E i c = wd N (O i) (wl N (ol O r)) (tg (msk N (inP r t)) c) := by
  obtain ⟨h1, h2, h3, h4, h5⟩ := h
  have e1 := h5 i hi hin (tg (msk N (inP r t)) c)
  rw [wd_piv hc hcP (fun j hj => h4 i j hi hin hj), h3] at e1
  have e2 : D * (s * sg (msk N (inP r t)) c * E i c) = D * wd N (O i) (wl N (ol O r)) (tg (msk N (inP r t)) c) := by
    rw [← e1]; grind
  exact Int.eq_of_mul_eq_mul_left h1 e2
theorem tnP {n r : Nat} {t : Nat → Nat} (hr : r < n) (hti : ∀ i j, i < n → j < n → t i = t j → i = j) : inP r t (t r) = false := by
  cases q : inP r t (t r) with
  | false => rfl
  | true =>
    obtain ⟨j, h1, h2⟩ := inP_iff.mp q
    have := hti j r (by omega) hr h2
    omega
theorem Bz_piv {N n r : Nat} {t : Nat → Nat} {D s : Int} {E O : Nat → Nat → Int} (h : Bz N n r t D s E O) (hr : r < n) (htn : ∀ i, i < n → t i < N) (hti : ∀ i j, i < n → j < n → t i = t j → i = j) : msk N (inP (r + 1) t) = tg (msk N (inP r t)) (t r) ∧ wl N (ol O (r + 1)) (msk N (inP (r + 1) t)) = s * sg (msk N (inP r t)) (t r) * E r (t r) := by
  have e0 : msk N (inP (r + 1) t) = tg (msk N (inP r t)) (t r) := by
    rw [← msk_up (htn r hr) (tnP hr hti)]
    congr 1
    funext e
    have : (fun j => if j = r then t r else t j) = t := by
      funext j
      by_cases q : j = r
      · rw [if_pos q, q]
      · rw [if_neg q]
    rw [this]
  refine ⟨e0, ?_⟩
  rw [e0, Bz_val h (Nat.le_refl r) hr (htn r hr) (tnP hr hti)]
  rfl
/-- the new form and the rows before it is made -/
theorem Bz_new {N n r : Nat} {t : Nat → Nat} {D s : Int} {E O : Nat → Nat → Int} (h : Bz N n r t D s E O) (hr : r < n) {i : Nat} (hi : r ≤ i) (hin : i < n) (S : Nat) : wd N (E i) (wl N (ol O (r + 1))) S = D * wd N (O i) (wl N (ol O (r + 1))) S := by
  obtain ⟨h1, h2, h3, h4, h5⟩ := h
  show wd N (E i) (wd N (O r) (wl N (ol O r))) S = D * wd N (O i) (wd N (O r) (wl N (ol O r))) S
  rw [wd_wd N (E i), wd_wd N (O i), wd_cw (v := fun T => D * wd N (O i) (wl N (ol O r)) T) (fun T => h5 i hi hin T), wd_mulw]
  grind
theorem Bz_F {N n r : Nat} {t : Nat → Nat} {D s : Int} {E O : Nat → Nat → Int} (h : Bz N n r t D s E O) (hr : r < n) {i : Nat} (hi : r ≤ i) (hin : i < n) (S : Nat) : wd N (fun e => E r (t r) * E i e - E i (t r) * E r e) (wl N (ol O (r + 1))) S = E r (t r) * (D * wd N (O i) (wl N (ol O (r + 1))) S) := by
  have e1 := wd_eq3 (n := N) (a' := fun e => E r (t r) * E i e - E i (t r) * E r e) (a := E i) (b := E r) (w := wl N (ol O (r + 1))) (g := 1) (x := E r (t r)) (y := E i (t r)) (fun e _ => by rw [Int.one_mul]) S
  rw [Bz_new h hr hi hin, Bz_new h hr (Nat.le_refl r) hr] at e1
  have e2 : wd N (O r) (wl N (ol O (r + 1))) S = 0 := wd_self S
  rw [e2] at e1
  omega
theorem Bz_div {N n r : Nat} {t : Nat → Nat} {D s : Int} {E O : Nat → Nat → Int} (h : Bz N n r t D s E O) (hr : r < n) (htn : ∀ i, i < n → t i < N) (hti : ∀ i j, i < n → j < n → t i = t j → i = j) (hne : E r (t r) ≠ 0) {i : Nat} (hi : r < i) (hin : i < n) {e : Nat} (he : e < N) : D ∣ E i e * E r (t r) - E i (t r) * E r e := by
  obtain ⟨p1, p2⟩ := Bz_piv h hr htn hti
  have hz : ∀ j, j < r + 1 → E r (t r) * E i (t j) - E i (t r) * E r (t j) = 0 := by
    intro j hj
    by_cases q : j = r
    · subst q; rw [Int.mul_comm]; omega
    · rw [h.2.2.2.1 i j (by omega) hin (by omega), h.2.2.2.1 r j (Nat.le_refl r) hr (by omega)]; simp
  by_cases q : inP (r + 1) t e = true
  · obtain ⟨j, hj, rfl⟩ := inP_iff.mp q
    have := hz j hj
    rw [Int.mul_comm (E i (t j)), this]; exact Int.dvd_zero _
  · have q' : inP (r + 1) t e = false := by simpa using q
    have e1 := Bz_F h hr (show r ≤ i by omega) hin (tg (msk N (inP (r + 1) t)) e)
    rw [wd_piv he q' hz, p2] at e1
    generalize hX : wd N (O i) (wl N (ol O (r + 1))) (tg (msk N (inP (r + 1) t)) e) = X at e1
    have s1 := sg_sq (msk N (inP (r + 1) t)) e
    have s2 := sg_sq (msk N (inP r t)) (t r)
    have s3 : s * s = 1 := by rcases h.2.1 with q | q <;> rw [q] <;> rfl
    generalize sg (msk N (inP (r + 1) t)) e = g1 at *
    generalize sg (msk N (inP r t)) (t r) = g2 at *
    have e2 : E r (t r) * (g1 * s * g2 * (E r (t r) * E i e - E i (t r) * E r e)) = E r (t r) * (D * X) := by
      rw [← e1]; grind
    have e3 := Int.eq_of_mul_eq_mul_left hne e2
    refine ⟨g1 * s * g2 * X, ?_⟩
    have e4 : g1 * s * g2 * (g1 * s * g2 * (E r (t r) * E i e - E i (t r) * E r e)) = g1 * s * g2 * (D * X) := by rw [e3]
    have e5 : g1 * s * g2 * (g1 * s * g2 * (E r (t r) * E i e - E i (t r) * E r e)) = (g1 * g1) * (s * s) * (g2 * g2) * (E r (t r) * E i e - E i (t r) * E r e) := by grind
    rw [e5, s1, s2, s3] at e4
    rw [Int.mul_comm (E i e)]
    grind
theorem Bz_step {N n r : Nat} {t : Nat → Nat} {D s : Int} {E E' O : Nat → Nat → Int} (h : Bz N n r t D s E O) (hr : r < n) (htn : ∀ i, i < n → t i < N) (hti : ∀ i j, i < n → j < n → t i = t j → i = j) (hne : E r (t r) ≠ 0) (hE : ∀ i, r < i → i < n → ∀ e, e < N → D * E' i e = E i e * E r (t r) - E i (t r) * E r e) : Bz N n (r + 1) t (E r (t r)) (s * sg (msk N (inP r t)) (t r)) E' O := by
  obtain ⟨p1, p2⟩ := Bz_piv h hr htn hti
  refine ⟨hne, ?_, p2, ?_, ?_⟩
  · rcases h.2.1 with q | q <;> rcases sg_or (msk N (inP r t)) (t r) with q2 | q2 <;> rw [q, q2] <;> decide
  · intro i j hi hin hj
    have e1 := hE i (by omega) hin (t j) (htn j (by omega))
    have e2 : D * E' i (t j) = 0 := by
      rw [e1]
      by_cases q : j = r
      · subst q; omega
      · rw [h.2.2.2.1 i j (by omega) hin (by omega), h.2.2.2.1 r j (Nat.le_refl r) hr (by omega)]; simp
    rcases Int.mul_eq_zero.mp e2 with q | q
    · exact absurd q h.1
    · exact q
  · intro i hi hin S
    have e1 := Bz_F h hr (show r ≤ i by omega) hin S
    have e2 := wd_eq3 (n := N) (a' := E' i) (a := E i) (b := E r) (w := wl N (ol O (r + 1))) (g := D) (x := E r (t r)) (y := E i (t r)) (fun e he => by rw [hE i (by omega) hin e he, Int.mul_comm (E i e)]) S
    have e3 := wd_eq3 (n := N) (a' := fun e => E r (t r) * E i e - E i (t r) * E r e) (a := E i) (b := E r) (w := wl N (ol O (r + 1))) (g := 1) (x := E r (t r)) (y := E i (t r)) (fun e _ => by rw [Int.one_mul]) S
    rw [e1, Int.one_mul] at e3
    rw [← e3] at e2
    have e4 : D * wd N (E' i) (wl N (ol O (r + 1))) S = D * (E r (t r) * wd N (O i) (wl N (ol O (r + 1))) S) := by rw [e2]; grind
    exact Int.eq_of_mul_eq_mul_left h.1 e4
theorem Bz_swap {N n r i : Nat} {t : Nat → Nat} {D s : Int} {E O E' O' : Nat → Nat → Int} (h : Bz N n r t D s E O) (hr : r ≤ i) (hin : i < n) (hE : ∀ k, k < n → E' k = if k = r then E i else if k = i then E r else E k) (hO : ∀ k, k < n → O' k = if k = r then O i else if k = i then O r else O k) : Bz N n r t D s E' O' := by
  obtain ⟨h1, h2, h3, h4, h5⟩ := h
  have hol : ol O' r = ol O r := ol_congr (fun j hj => by rw [hO j (by omega), if_neg (by omega), if_neg (by omega)])
  refine ⟨h1, h2, by rw [hol]; exact h3, ?_, ?_⟩
  · intro k j hk hkn hj
    rw [hE k hkn]
    by_cases q : k = r
    · rw [if_pos q]; exact h4 i j hr hin hj
    · rw [if_neg q]
      by_cases q2 : k = i
      · rw [if_pos q2]; exact h4 r j (Nat.le_refl r) (by omega) hj
      · rw [if_neg q2]; exact h4 k j hk hkn hj
  · intro k hk hkn
    rw [hol, hE k hkn, hO k hkn]
    by_cases q : k = r
    · rw [if_pos q, if_pos q]; exact h5 i hr hin
    · rw [if_neg q, if_neg q]
      by_cases q2 : k = i
      · rw [if_pos q2, if_pos q2]; exact h5 r (Nat.le_refl r) (by omega)
      · rw [if_neg q2, if_neg q2]; exact h5 k hk hkn
/-- the rows' sizes: they are minors of the first rows -/
theorem Bz_bd {N n r C : Nat} {t : Nat → Nat} {D s : Int} {E O : Nat → Nat → Int} (h : Bz N n r t D s E O) (hO : ∀ k, k < n → ∀ e, e < N → (O k e).natAbs ≤ C) (htn : ∀ i, i < n → t i < N) {i e : Nat} (hi : r ≤ i) (hin : i < n) (he : e < N) : (E i e).natAbs ≤ fbd C (r + 1) := by
  by_cases q : inP r t e = true
  · obtain ⟨j, hj, rfl⟩ := inP_iff.mp q
    rw [h.2.2.2.1 i j hi hin hj]; simp
  · have e1 := Bz_val h hi hin he (by simpa using q)
    have e2 : wd N (O i) (wl N (ol O r)) (tg (msk N (inP r t)) e) = wl N (O i :: ol O r) (tg (msk N (inP r t)) e) := rfl
    have e3 := wl_fbd (n := N) (C := C) (rs := O i :: ol O r) (fun q hq => by
      rcases List.mem_cons.mp hq with q1 | q1
      · rw [q1]; exact hO i hin
      · obtain ⟨j, hj, rfl⟩ := ol_mem q1; exact hO j (by omega)) (tg_lt (msk_lt (n := N) (f := inP r t)) he)
    rw [← e2, ← e1, Int.natAbs_mul, Int.natAbs_mul, sg_abs] at e3
    have e4 : s.natAbs = 1 := by rcases h.2.1 with q | q <;> rw [q] <;> rfl
    rw [e4, List.length_cons, ol_len] at e3
    omega
/-- the same without divisions, in a field -/
def Bq (m : Int) (N n r : Nat) (t : Nat → Nat) (E O : Nat → Nat → Int) : Prop :=
  ¬ m ∣ wl N (ol O r) (msk N (inP r t)) ∧ (∀ i j, r ≤ i → i < n → j < r → m ∣ E i (t j)) ∧
  ∀ i, r ≤ i → i < n → ∀ S, m ∣ wd N (E i) (wl N (ol O r)) S - 1 * wd N (O i) (wl N (ol O r)) S
theorem Bq_0 {m : Int} {N n : Nat} {t : Nat → Nat} {O : Nat → Nat → Int} (hm : ¬ m ∣ 1) : Bq m N n 0 t O O := by
  refine ⟨?_, fun _ j _ _ hj => absurd hj (by omega), fun i _ _ S => by rw [Int.one_mul, Int.sub_self]; exact Int.dvd_zero _⟩
  have h : msk N (inP 0 t) = 0 := by
    apply Nat.eq_of_testBit_eq
    intro e
    rw [msk_bit, Nat.zero_testBit]
    simp [inP]
  rw [h]
  simpa [ol, wl, vac] using hm
theorem Bq_swap {m : Int} {N n r i : Nat} {t : Nat → Nat} {E O E' O' : Nat → Nat → Int} (h : Bq m N n r t E O) (hr : r ≤ i) (hin : i < n) (hE : ∀ k, k < n → E' k = if k = r then E i else if k = i then E r else E k) (hO : ∀ k, k < n → O' k = if k = r then O i else if k = i then O r else O k) : Bq m N n r t E' O' := by
  obtain ⟨h3, h4, h5⟩ := h
  have hol : ol O' r = ol O r := ol_congr (fun j hj => by rw [hO j (by omega), if_neg (by omega), if_neg (by omega)])
  refine ⟨by rw [hol]; exact h3, ?_, ?_⟩
  · intro k j hk hkn hj
    rw [hE k hkn]
    by_cases q : k = r
    · rw [if_pos q]; exact h4 i j hr hin hj
    · rw [if_neg q]
      by_cases q2 : k = i
      · rw [if_pos q2]; exact h4 r j (Nat.le_refl r) (by omega) hj
      · rw [if_neg q2]; exact h4 k j hk hkn hj
  · intro k hk hkn
    rw [hol, hE k hkn, hO k hkn]
    by_cases q : k = r
    · rw [if_pos q, if_pos q]; exact h5 i hr hin
    · rw [if_neg q, if_neg q]
      by_cases q2 : k = i
      · rw [if_pos q2, if_pos q2]; exact h5 r (Nat.le_refl r) (by omega)
      · rw [if_neg q2, if_neg q2]; exact h5 k hk hkn
theorem wd_pivm {m : Int} {n r : Nat} {pv : Nat → Nat} {a w : Nat → Int} {c : Nat} (hc : c < n) (hcP : inP r pv c = false) (h0 : ∀ j, j < r → m ∣ a (pv j)) : m ∣ wd n a w (tg (msk n (inP r pv)) c) - sg (msk n (inP r pv)) c * a c * w (msk n (inP r pv)) := by
  have hb : (msk n (inP r pv)).testBit c = false := by rw [msk_bit, hcP]; simp
  rw [wd_at hc a w hb, show ∀ x y : Int, x + y - x = y by intros; omega]
  refine sm_dvd (fun e he => ?_)
  by_cases q : (msk n (inP r pv)).testBit e = true
  · rw [if_pos q]
    rw [msk_bit] at q
    simp at q
    obtain ⟨j, hj, rfl⟩ := inP_iff.mp q.2
    exact Int.dvd_mul_of_dvd_left (Int.dvd_mul_of_dvd_right (h0 j hj))
  · rw [if_neg q]; exact Int.dvd_zero _
theorem Bq_step {m : Nat} (hm : FdP m) {N n r : Nat} {t : Nat → Nat} {E E' O : Nat → Nat → Int} (h : Bq m N n r t E O) (hr : r < n) (htn : ∀ i, i < n → t i < N) (hti : ∀ i j, i < n → j < n → t i = t j → i = j) (hne : ¬ (m : Int) ∣ E r (t r)) (hE : ∀ i, r < i → i < n → ∃ f : Int, (∀ e, e < N → (m : Int) ∣ E' i e - (E i e - f * E r e)) ∧ (m : Int) ∣ E' i (t r)) : Bq m N n (r + 1) t E' O := by
  obtain ⟨h1, h2, h3⟩ := h
  have e0 : msk N (inP (r + 1) t) = tg (msk N (inP r t)) (t r) := by
    rw [← msk_up (htn r hr) (tnP hr hti)]
    congr 1
    funext e
    have : (fun j => if j = r then t r else t j) = t := by
      funext j
      by_cases q : j = r
      · rw [if_pos q, q]
      · rw [if_neg q]
    rw [this]
  have hself : ∀ S, (m : Int) ∣ wd N (E r) (wl N (ol O (r + 1))) S := by
    intro S
    have a1 := wd_push (m := (m : Int)) (D := 1) (N := N) (a := E r) (b := O r) (l := [O r]) (l2 := ol O r) (h3 r (Nat.le_refl r) hr) S
    have a2 : wd N (O r) (wl N ([O r] ++ ol O r)) S = 0 := wd_self S
    rw [a2] at a1
    have a3 : wl N ([O r] ++ ol O r) = wl N (ol O (r + 1)) := rfl
    rw [a3] at a1
    simpa using a1
  refine ⟨?_, ?_, ?_⟩
  · rw [e0]
    intro hd
    have a1 : (m : Int) ∣ wd N (O r) (wl N (ol O r)) (tg (msk N (inP r t)) (t r)) := hd
    have a2 := h3 r (Nat.le_refl r) hr (tg (msk N (inP r t)) (t r))
    have a3 := wd_pivm (m := (m : Int)) (w := wl N (ol O r)) (htn r hr) (tnP hr hti) (fun j hj => h2 r j (Nat.le_refl r) hr hj)
    rw [Int.one_mul] at a2
    have a4 : (m : Int) ∣ wd N (E r) (wl N (ol O r)) (tg (msk N (inP r t)) (t r)) := by
      have := Int.dvd_add a2 a1
      rwa [show ∀ x y : Int, x - y + y = x by intros; omega] at this
    have a5 : (m : Int) ∣ sg (msk N (inP r t)) (t r) * (E r (t r) * wl N (ol O r) (msk N (inP r t))) := by
      have := Int.dvd_sub a4 a3
      rw [show ∀ x y : Int, x - (x - y) = y by intros; omega, Int.mul_assoc] at this
      exact this
    rcases fd_dom hm (sg_canc a5) with q | q
    · exact hne q
    · exact h1 q
  · intro i j hi hin hj
    obtain ⟨f, f1, f2⟩ := hE i (by omega) hin
    by_cases q : j = r
    · rw [q]; exact f2
    · have a1 := f1 (t j) (htn j (by omega))
      have a2 := h2 i j (by omega) hin (by omega)
      have a3 := h2 r j (Nat.le_refl r) hr (by omega)
      have a4 := Int.dvd_add a1 (Int.dvd_sub a2 (Int.dvd_mul_of_dvd_right (b := f) a3))
      rwa [show ∀ x y : Int, x - y + y = x by intros; omega] at a4
  · intro i hi hin S
    obtain ⟨f, f1, f2⟩ := hE i (by omega) hin
    have a1 := wd_lin3 (m := (m : Int)) (n := N) (a' := E' i) (a := E i) (b := E r) (w := wl N (ol O (r + 1))) (g := 1) (x := 1) (y := f) (fun e he => by rw [Int.one_mul, Int.one_mul]; exact f1 e he) S
    have a2 := wd_push (m := (m : Int)) (D := 1) (N := N) (a := E i) (b := O i) (l := [O r]) (l2 := ol O r) (h3 i (by omega) hin) S
    have a3 : wl N ([O r] ++ ol O r) = wl N (ol O (r + 1)) := rfl
    rw [a3] at a2
    have a4 := Int.dvd_sub (Int.dvd_add a1 a2) (Int.dvd_mul_of_dvd_right (b := f) (hself S))
    have a5 : ∀ x y z u : Int, 1 * x - (1 * y - z) + (y - 1 * u) - z = x - 1 * u := by intros; omega
    rw [a5] at a4
    exact a4
