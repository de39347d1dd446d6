/-! a product of rows: a row brought to the front, two rows exchanged; when it vanishes -/
def ps : Nat → Int
  | 0 => 1
  | k + 1 => - ps k
theorem ps_sq (k : Nat) : ps k * ps k = 1 := by
  induction k with
  | zero => rfl
  | succ k ih => simp only [ps]; rw [Int.neg_mul_neg]; exact ih
theorem ps_or (k : Nat) : ps k = 1 ∨ ps k = -1 := by
  induction k with
  | zero => exact Or.inl rfl
  | succ k ih => simp only [ps]; rcases ih with h | h <;> simp [h]
theorem ps_add (a b : Nat) : ps (a + b) = ps a * ps b := by
  induction b with
  | zero => simp [ps]
  | succ b ih => rw [← Nat.add_assoc]; simp only [ps]; rw [ih, Int.mul_neg]
theorem sg_ps (S e : Nat) : sg S e = ps (cnt e S.testBit) := by
  induction e with
  | zero => rfl
  | succ e ih =>
    simp only [sg, cnt]
    by_cases q : S.testBit e = true
    · rw [if_pos q, if_pos q]; simp only [ps]; rw [ih]
    · rw [if_neg q, if_neg q]; exact ih
/-- the rows without the i-th -/
def dl (O : Nat → Nat → Int) (i : Nat) : Nat → Nat → Int := fun j => if j < i then O j else O (j + 1)
theorem wd_cw {n : Nat} {a w v : Nat → Int} (h : ∀ S, w S = v S) (S : Nat) : wd n a w S = wd n a v S := by
  have : w = v := funext h
  rw [this]
theorem ol_front {N n i : Nat} {O : Nat → Nat → Int} (hi : i < n + 1) (S : Nat) : wl N (ol O (n + 1)) S = ps (n - i) * wd N (O i) (wl N (ol (dl O i) n)) S := by
  induction n generalizing S with
  | zero =>
    have : i = 0 := by omega
    subst this
    simp [ol, ps, wl]
  | succ n ih =>
    by_cases q : i = n + 1
    · subst q
      have e : ol (dl O (n + 1)) (n + 1) = ol O (n + 1) := ol_congr (fun j hj => by unfold dl; rw [if_pos hj])
      rw [e, Nat.sub_self]
      show wd N (O (n + 1)) (wl N (ol O (n + 1))) S = _
      simp [ps]
    · have e1 : wl N (ol O (n + 1 + 1)) S = wd N (O (n + 1)) (wl N (ol O (n + 1))) S := rfl
      have e2 : wl N (ol (dl O i) (n + 1)) = wd N (O (n + 1)) (wl N (ol (dl O i) n)) := by
        show wd N (dl O i n) _ = _
        have : dl O i n = O (n + 1) := by unfold dl; rw [if_neg (by omega)]
        rw [this]
      rw [e1, e2, wd_cw (v := fun T => ps (n - i) * wd N (O i) (wl N (ol (dl O i) n)) T) (fun T => ih (by omega) T), wd_mulw, wd_wd N (O (n + 1)), show n + 1 - i = (n - i) + 1 by omega]
      simp only [ps]
      grind
theorem ol_swap {N n r i : Nat} {O O' : Nat → Nat → Int} (hr : r < i) (hi : i < n) (h : ∀ k, k < n → O' k = if k = r then O i else if k = i then O r else O k) (S : Nat) : wl N (ol O' n) S = - wl N (ol O n) S := by
  obtain ⟨p, rfl⟩ : ∃ p, n = p + 1 + 1 := ⟨n - 2, by omega⟩
  rw [ol_front (O := O') hi, ol_front (O := O) hi]
  rw [wd_cw (fun T => ol_front (O := dl O' i) (show r < p + 1 by omega) T), wd_cw (fun T => ol_front (O := dl O i) (show r < p + 1 by omega) T), wd_mulw, wd_mulw]
  have e1 : dl O' i r = O i := by unfold dl; rw [if_pos hr, h r (by omega), if_pos rfl]
  have e2 : dl O i r = O r := by unfold dl; rw [if_pos hr]
  have e3 : O' i = O r := by rw [h i hi, if_neg (by omega), if_pos rfl]
  have e4 : ol (dl (dl O' i) r) p = ol (dl (dl O i) r) p := by
    refine ol_congr (fun j hj => ?_)
    unfold dl
    by_cases q1 : j < r
    · simp only [if_pos q1, if_pos (show j < i by omega)]
      rw [h j (by omega), if_neg (by omega), if_neg (by omega)]
    · simp only [if_neg q1]
      by_cases q2 : j + 1 < i
      · simp only [if_pos q2]
        rw [h (j + 1) (by omega), if_neg (by omega), if_neg (by omega)]
      · simp only [if_neg q2]
        rw [h (j + 1 + 1) (by omega), if_neg (by omega), if_neg (by omega)]
  rw [e1, e2, e3, e4, wd_wd N (O r)]
  grind
theorem wl_van {m : Int} {N : Nat} {z : Nat → Bool} {l1 l2 : List (Nat → Int)} (h : ∀ a ∈ l1, ∀ e, e < N → z e = true → m ∣ a e) : ∀ S, cnt N (fun e => S.testBit e && !z e) < l1.length → m ∣ wl N (l1 ++ l2) S := by
  induction l1 with
  | nil => intro S hS; simp at hS
  | cons a l ih =>
    intro S hS
    show m ∣ wd N a (wl N (l ++ l2)) S
    unfold wd
    refine sm_dvd (fun e he => ?_)
    by_cases q : S.testBit e = true
    · rw [if_pos q]
      by_cases q2 : z e = true
      · exact Int.dvd_mul_of_dvd_left (Int.dvd_mul_of_dvd_right (h a (List.mem_cons_self ..) e he q2))
      · refine Int.dvd_mul_of_dvd_right (ih (fun b hb => h b (List.mem_cons_of_mem _ hb)) _ ?_)
        have c1 := cnt_del (n := N) (x := e) (f := fun x => S.testBit x && !z x) (g := fun x => (tg S e).testBit x && !z x) he (by simp [q, q2]) (by show ((tg S e).testBit e && !z e) = false; rw [tg_self, q]; rfl) (fun x hx => by show ((tg S e).testBit x && !z x) = (S.testBit x && !z x); rw [tg_ne (fun h => hx h.symm)])
        simp only [List.length_cons] at hS
        omega
    · rw [if_neg q]; exact Int.dvd_zero _
/-- rows r, r+1 .. r+k-1, the last in front -/
def of (E : Nat → Nat → Int) (r : Nat) : Nat → List (Nat → Int)
  | 0 => []
  | k + 1 => E (r + k) :: of E r k
theorem of_ol {O : Nat → Nat → Int} {r k : Nat} : of O r k ++ ol O r = ol O (r + k) := by
  induction k with
  | zero => rfl
  | succ k ih =>
    show O (r + k) :: (of O r k ++ ol O r) = O (r + k) :: ol O (r + k)
    rw [ih]
theorem of_len {E : Nat → Nat → Int} {r k : Nat} : (of E r k).length = k := by
  induction k with
  | zero => rfl
  | succ k ih => simp [of, ih]
theorem of_mem {E : Nat → Nat → Int} {r k : Nat} {a : Nat → Int} (h : a ∈ of E r k) : ∃ i, r ≤ i ∧ i < r + k ∧ a = E i := by
  induction k with
  | zero => simp [of] at h
  | succ k ih =>
    rcases List.mem_cons.mp h with e | e
    · exact ⟨r + k, by omega, by omega, e⟩
    · obtain ⟨i, h1, h2, h3⟩ := ih e; exact ⟨i, h1, by omega, h3⟩
theorem wd_lw {N : Nat} {x u v : Nat → Int} {D : Int} (S : Nat) : wd N x (fun T => u T - D * v T) S = wd N x u S - D * wd N x v S := by
  have h := sm_lin N 1 1 D (fun e => if S.testBit e = true then sg S e * x e * (u (tg S e) - D * v (tg S e)) else 0) (fun e => if S.testBit e = true then sg S e * x e * u (tg S e) else 0) (fun e => if S.testBit e = true then sg S e * x e * v (tg S e) else 0)
  have h2 : sm N (fun e => 1 * (if S.testBit e = true then sg S e * x e * (u (tg S e) - D * v (tg S e)) else 0) - (1 * (if S.testBit e = true then sg S e * x e * u (tg S e) else 0) - D * (if S.testBit e = true then sg S e * x e * v (tg S e) else 0))) = 0 := by
    refine sm_z (fun e _ => ?_)
    by_cases q : S.testBit e = true
    · rw [if_pos q, if_pos q, if_pos q]; grind
    · rw [if_neg q, if_neg q, if_neg q]; simp
  rw [h2] at h
  unfold wd
  dsimp only
  omega
theorem wd_push {m D : Int} {N : Nat} {a b : Nat → Int} {l l2 : List (Nat → Int)} (h : ∀ S, m ∣ wd N a (wl N l2) S - D * wd N b (wl N l2) S) : ∀ S, m ∣ wd N a (wl N (l ++ l2)) S - D * wd N b (wl N (l ++ l2)) S := by
  induction l with
  | nil => exact h
  | cons x l ih =>
    intro S
    show m ∣ wd N a (wd N x (wl N (l ++ l2))) S - D * wd N b (wd N x (wl N (l ++ l2))) S
    rw [wd_wd N a x, wd_wd N b x]
    have e : - wd N x (wd N a (wl N (l ++ l2))) S - D * - wd N x (wd N b (wl N (l ++ l2))) S = - wd N x (fun T => wd N a (wl N (l ++ l2)) T - D * wd N b (wl N (l ++ l2)) T) S := by
      rw [wd_lw]
      grind
    rw [e]
    exact Int.dvd_neg.mpr (wd_zero ih S)
theorem of_scale {m D : Int} {N r k : Nat} {E O : Nat → Nat → Int} (h : ∀ i, r ≤ i → i < r + k → ∀ S, m ∣ wd N (E i) (wl N (ol O r)) S - D * wd N (O i) (wl N (ol O r)) S) (S : Nat) : m ∣ wl N (of E r k ++ ol O r) S - D ^ k * wl N (ol O (r + k)) S := by
  induction k generalizing S with
  | zero => simp [of]
  | succ k ih =>
    have h1 := ih (fun i h1 h2 => h i h1 (by omega))
    have h2 := wd_push (l := of O r k) (h (r + k) (by omega) (by omega)) S
    rw [of_ol] at h2
    show m ∣ wd N (E (r + k)) (wl N (of E r k ++ ol O r)) S - D ^ (k + 1) * wd N (O (r + k)) (wl N (ol O (r + k))) S
    have h3 : m ∣ wd N (E (r + k)) (fun T => wl N (of E r k ++ ol O r) T - D ^ k * wl N (ol O (r + k)) T) S := wd_zero h1 S
    have e1 : wd N (E (r + k)) (fun T => wl N (of E r k ++ ol O r) T - D ^ k * wl N (ol O (r + k)) T) S = wd N (E (r + k)) (wl N (of E r k ++ ol O r)) S - D ^ k * wd N (E (r + k)) (wl N (ol O (r + k))) S := by exact wd_lw S
    rw [e1] at h3
    have h4 : m ∣ D ^ k * (wd N (E (r + k)) (wl N (ol O (r + k))) S - D * wd N (O (r + k)) (wl N (ol O (r + k))) S) := Int.dvd_mul_of_dvd_right h2
    have h5 := Int.dvd_add h3 h4
    have e2 : D ^ (k + 1) = D ^ k * D := Int.pow_succ ..
    rw [e2]
    have e3 : ∀ x y z c d : Int, x - c * y + c * (y - d * z) = x - c * d * z := by intros; grind
    rw [e3] at h5
    exact h5
theorem fd_pow {m : Nat} (hm : FdP m) {D : Int} (hD : ¬ (m : Int) ∣ D) {k : Nat} {x : Int} (h : (m : Int) ∣ D ^ k * x) : (m : Int) ∣ x := by
  induction k with
  | zero => simpa using h
  | succ k ih =>
    rw [Int.pow_succ, Int.mul_assoc, Int.mul_left_comm] at h
    exact ih (fd_canc hm hD h)
/-- no pivot in a column: the product vanishes at the whole set -/
theorem wl_nopiv {m : Nat} (hm : FdP m) {D : Int} (hD : ¬ (m : Int) ∣ D) {N n r : Nat} {t : Nat → Nat} {E O : Nat → Nat → Int} (hr : r < n) (htn : ∀ i, i < n → t i < N) (hti : ∀ i j, i < n → j < n → t i = t j → i = j) (h : ∀ i, r ≤ i → i < n → ∀ S, (m : Int) ∣ wd N (E i) (wl N (ol O r)) S - D * wd N (O i) (wl N (ol O r)) S) (hz : ∀ i j, r ≤ i → i < n → j ≤ r → (m : Int) ∣ E i (t j)) : (m : Int) ∣ wl N (ol O n) (msk N (inP n t)) := by
  have h1 := of_scale (m := (m : Int)) (k := n - r) (r := r) (E := E) (O := O) (N := N) (D := D) (fun i h1 h2 => h i h1 (by omega)) (msk N (inP n t))
  have h2 : (m : Int) ∣ wl N (of E r (n - r) ++ ol O r) (msk N (inP n t)) := by
    refine wl_van (z := inP (r + 1) t) (fun a ha e he hz2 => ?_) _ ?_
    · obtain ⟨i, a1, a2, rfl⟩ := of_mem ha
      obtain ⟨j, b1, rfl⟩ := inP_iff.mp hz2
      exact hz i j a1 (by omega) (by omega)
    · rw [of_len]
      have c1 := cnt_split N (inP n t) (inP (r + 1) t)
      have c2 : cnt N (fun e => inP n t e && inP (r + 1) t e) = cnt N (inP (r + 1) t) := by
        refine cnt_congr (fun e _ => ?_)
        cases q : inP (r + 1) t e with
        | false => simp
        | true =>
          obtain ⟨j, b1, b2⟩ := inP_iff.mp q
          have : inP n t e = true := inP_iff.mpr ⟨j, by omega, b2⟩
          simp [this]
      rw [inP_cnt htn hti, c2, inP_cnt (fun i hi => htn i (by omega)) (fun i j hi hj => hti i j (by omega) (by omega))] at c1
      have c3 : cnt N (fun e => (msk N (inP n t)).testBit e && !inP (r + 1) t e) = cnt N (fun e => inP n t e && !inP (r + 1) t e) := by
        refine cnt_congr (fun e he => ?_)
        rw [msk_bit]; simp [he]
      rw [c3]; omega
  have h3 := Int.dvd_sub h2 h1
  rw [show ∀ x y : Int, x - (x - y) = y by intros; omega, show r + (n - r) = n by omega] at h3
  exact fd_pow hm hD h3
