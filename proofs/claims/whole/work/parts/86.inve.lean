/-! inversions of a list of two rising parts -/
def sN : Nat → (Nat → Nat) → Nat
  | 0, _ => 0
  | n + 1, f => sN n f + f n
theorem sN_congr {n : Nat} {f g : Nat → Nat} (h : ∀ e, e < n → f e = g e) : sN n f = sN n g := by
  induction n with
  | zero => rfl
  | succ n ih => simp only [sN]; rw [ih (fun e he => h e (by omega)), h n (by omega)]
theorem sN_add {n : Nat} {f g : Nat → Nat} : sN n (fun e => f e + g e) = sN n f + sN n g := by
  induction n with
  | zero => rfl
  | succ n ih => simp only [sN]; rw [ih]; omega
def trn (val : Nat → Nat) : Nat → Nat
  | 0 => 0
  | i + 1 => trn val i + cnt i (fun j => decide (val i < val j))
theorem en_cnt {N : Nat} {f p : Nat → Bool} {t : Nat → Nat} (h : ∀ j, j < cnt N f → t j < N ∧ f (t j) = true ∧ cnt (t j) f = j) : cnt (cnt N f) (fun j => p (t j)) = cnt N (fun x => f x && p x) := by
  induction N with
  | zero => rfl
  | succ N ih =>
    by_cases q : f N = true
    · have e1 : cnt (N + 1) f = cnt N f + 1 := by simp only [cnt]; rw [if_pos q]
      rw [e1] at h ⊢
      have hN : t (cnt N f) = N := by
        obtain ⟨a, b, c⟩ := h (cnt N f) (by omega)
        rcases Nat.lt_or_ge (t (cnt N f)) N with q2 | q2
        · have := cnt_lt q2 b; omega
        · omega
      have h2 := ih (fun j hj => by
        obtain ⟨a, b, c⟩ := h j (by omega)
        refine ⟨?_, b, c⟩
        rcases Nat.lt_or_ge (t j) N with q2 | q2
        · exact q2
        · have : t j = N := by omega
          rw [this] at c; omega)
      show cnt (cnt N f) (fun j => p (t j)) + (if p (t (cnt N f)) = true then 1 else 0) = cnt N (fun x => f x && p x) + (if (f N && p N) = true then 1 else 0)
      rw [h2, hN]
      simp [q]
    · have e1 : cnt (N + 1) f = cnt N f := by simp only [cnt]; rw [if_neg q]; rfl
      rw [e1] at h ⊢
      have h2 := ih (fun j hj => by
        obtain ⟨a, b, c⟩ := h j hj
        refine ⟨?_, b, c⟩
        rcases Nat.lt_or_ge (t j) N with q2 | q2
        · exact q2
        · have : t j = N := by omega
          rw [this] at b; exact absurd b q)
      show _ = cnt N (fun x => f x && p x) + (if (f N && p N) = true then 1 else 0)
      rw [h2]
      simp [q]
theorem en_sum {N : Nat} {f : Nat → Bool} {t g : Nat → Nat} (h : ∀ j, j < cnt N f → t j < N ∧ f (t j) = true ∧ cnt (t j) f = j) : sN (cnt N f) (fun j => g (t j)) = sN N (fun x => if f x = true then g x else 0) := by
  induction N with
  | zero => rfl
  | succ N ih =>
    by_cases q : f N = true
    · have e1 : cnt (N + 1) f = cnt N f + 1 := by simp only [cnt]; rw [if_pos q]
      rw [e1] at h ⊢
      have hN : t (cnt N f) = N := by
        obtain ⟨a, b, c⟩ := h (cnt N f) (by omega)
        rcases Nat.lt_or_ge (t (cnt N f)) N with q2 | q2
        · have := cnt_lt q2 b; omega
        · omega
      have h2 := ih (fun j hj => by
        obtain ⟨a, b, c⟩ := h j (by omega)
        refine ⟨?_, b, c⟩
        rcases Nat.lt_or_ge (t j) N with q2 | q2
        · exact q2
        · have : t j = N := by omega
          rw [this] at c; omega)
      show sN (cnt N f) (fun j => g (t j)) + g (t (cnt N f)) = sN N (fun x => if f x = true then g x else 0) + (if f N = true then g N else 0)
      rw [h2, hN, if_pos q]
    · have e1 : cnt (N + 1) f = cnt N f := by simp only [cnt]; rw [if_neg q]; rfl
      rw [e1] at h ⊢
      have h2 := ih (fun j hj => by
        obtain ⟨a, b, c⟩ := h j hj
        refine ⟨?_, b, c⟩
        rcases Nat.lt_or_ge (t j) N with q2 | q2
        · exact q2
        · have : t j = N := by omega
          rw [this] at b; exact absurd b q)
      show _ = sN N (fun x => if f x = true then g x else 0) + (if f N = true then g N else 0)
      rw [h2, if_neg q]; rfl
/-- pairs: a column of F above a column of G -/
def iv (N F G : Nat) : Nat := sN N (fun y => if G.testBit y = true then cnt N (fun x => F.testBit x && decide (y < x)) else 0)
theorem cnt_z {n : Nat} {f : Nat → Bool} (h : ∀ e, e < n → f e = false) : cnt n f = 0 := by
  induction n with
  | zero => rfl
  | succ n ih => simp only [cnt]; rw [ih (fun e he => h e (by omega)), h n (by omega)]; rfl
theorem cnt_app {a b : Nat} {f : Nat → Bool} : cnt (a + b) f = cnt a f + cnt b (fun j => f (a + j)) := by
  induction b with
  | zero => rfl
  | succ b ih =>
    show cnt (a + b) f + (if f (a + b) = true then 1 else 0) = cnt a f + (cnt b (fun j => f (a + j)) + (if f (a + b) = true then 1 else 0))
    rw [ih]; omega
theorem trn_iv {N F G : Nat} {val : Nat → Nat} (h1 : ∀ x, x < N → F.testBit x = true → val (cnt x F.testBit) = x) (h2 : ∀ y, y < N → G.testBit y = true → val (cnt N F.testBit + cnt y G.testBit) = y) : trn val (cnt N F.testBit + cnt N G.testBit) = iv N F G := by
  obtain ⟨t1, a1, a2⟩ := cnt_enum N F.testBit
  obtain ⟨t2, b1, b2⟩ := cnt_enum N G.testBit
  have v1 : ∀ j, j < cnt N F.testBit → val j = t1 j := by
    intro j hj
    obtain ⟨c1, c2, c3⟩ := a1 j hj
    have := h1 (t1 j) c1 c2
    rwa [c3] at this
  have v2 : ∀ j, j < cnt N G.testBit → val (cnt N F.testBit + j) = t2 j := by
    intro j hj
    obtain ⟨c1, c2, c3⟩ := b1 j hj
    have := h2 (t2 j) c1 c2
    rwa [c3] at this
  have z : ∀ i, i ≤ cnt N F.testBit → trn val i = 0 := by
    intro i
    induction i with
    | zero => intro _; rfl
    | succ i ih =>
      intro hi
      simp only [trn]
      rw [ih (by omega), cnt_z]
      intro j hj
      rw [v1 j (by omega), v1 i (by omega)]
      have := a2 j i hj (by omega)
      simp; omega
  have s : ∀ k, k ≤ cnt N G.testBit → trn val (cnt N F.testBit + k) = sN k (fun k => cnt N (fun x => F.testBit x && decide (t2 k < x))) := by
    intro k
    induction k with
    | zero => intro _; exact z _ (Nat.le_refl _)
    | succ k ih =>
      intro hk
      show trn val (cnt N F.testBit + k) + cnt (cnt N F.testBit + k) (fun j => decide (val (cnt N F.testBit + k) < val j)) = sN k (fun k => cnt N (fun x => F.testBit x && decide (t2 k < x))) + cnt N (fun x => F.testBit x && decide (t2 k < x))
      rw [ih (by omega), cnt_app]
      congr 1
      rw [cnt_z (n := k) (fun j hj => by
        rw [v2 j (by omega), v2 k (by omega)]
        have := b2 j k hj (by omega)
        simp; omega), Nat.add_zero, ← en_cnt (p := fun x => decide (t2 k < x)) a1]
      exact cnt_congr (fun j hj => by rw [v1 j hj, v2 k (by omega)])
  rw [s _ (Nat.le_refl _)]
  unfold iv
  exact en_sum (g := fun y => cnt N (fun x => F.testBit x && decide (y < x))) b1
theorem iv_tg {N C M e : Nat} (he : e < N) (hb : C.testBit e = true) : iv N (tg C e) M + cnt e M.testBit = iv N C M := by
  unfold iv
  have h1 : ∀ y, y < N → (if M.testBit y = true then cnt N (fun x => C.testBit x && decide (y < x)) else 0) = (if M.testBit y = true then cnt N (fun x => (tg C e).testBit x && decide (y < x)) else 0) + (if (M.testBit y && decide (y < e)) = true then 1 else 0) := by
    intro y hy
    by_cases q : M.testBit y = true
    · rw [if_pos q, if_pos q]
      by_cases q2 : y < e
      · have := cnt_del (n := N) (x := e) (f := fun x => C.testBit x && decide (y < x)) (g := fun x => (tg C e).testBit x && decide (y < x)) he (by simp [hb, q2]) (by show ((tg C e).testBit e && _) = false; rw [tg_self, hb]; rfl) (fun x hx => by show ((tg C e).testBit x && _) = _; rw [tg_ne (fun h => hx h.symm)])
        rw [if_pos (by simp [q, q2])]; omega
      · rw [if_neg (by simp [q2]), Nat.add_zero]
        refine cnt_congr (fun x hx => ?_)
        by_cases q3 : e = x
        · subst q3; simp [q2]
        · rw [tg_ne q3]
    · rw [if_neg q, if_neg q, if_neg (by simp [q])]
  rw [sN_congr h1, sN_add]
  congr 1
  have h2 : ∀ n p, sN n (fun y => if p y = true then 1 else 0) = cnt n p := by
    intro n p
    induction n with
    | zero => rfl
    | succ n ih => simp only [sN, cnt]; rw [ih]
  rw [h2, cnt_cut (Nat.le_of_lt he)]
def psI (k : Nat) : Int32 := if k % 2 = 0 then 1 else -1
theorem psI_add (a b : Nat) : psI (a + b) = psI a * psI b := by
  unfold psI
  rcases Nat.mod_two_eq_zero_or_one a with h1 | h1 <;> rcases Nat.mod_two_eq_zero_or_one b with h2 | h2
  · rw [if_pos (by omega), if_pos h1, if_pos h2]; decide
  · rw [if_neg (by omega), if_pos h1, if_neg (by omega)]; decide
  · rw [if_neg (by omega), if_neg (by omega), if_pos h2]; decide
  · rw [if_pos (by omega), if_neg (by omega), if_neg (by omega)]; decide
theorem psI_sq (a : Nat) : psI a * psI a = 1 := by
  unfold psI
  split <;> decide
theorem turn_psI (S e : Nat) : turn S e = psI (cnt e S.testBit) := by
  unfold turn psI
  rw [sg_ps, ps_par]
  by_cases q : cnt e S.testBit % 2 = 0
  · rw [if_pos q, if_pos q]; rfl
  · rw [if_neg q, if_neg q]; rfl
theorem iev_ok {row : Nat → Int32} {val : Nat → Nat} {n : Nat} (hn : n ≤ 13) (hv : ∀ i, i < n → row i = nI (val i) ∧ val i < 2 ^ 31) : ok (f_R_isEven 13 row (nI n)) (fun r => r = if trn val n % 2 = 0 then 1 else 0) := by
  have htb : ∀ i, i ≤ 13 → trn val i ≤ 13 * i := by
    intro i
    induction i with
    | zero => intro _; exact Nat.le_refl _
    | succ i ih =>
      intro hi
      have h1 := ih (by omega)
      have h2 := cnt_bd (f := fun j => decide (val i < val j)) (N := i)
      simp only [trn]; omega
  unfold f_R_isEven
  refine ok_jn (fun k48 => ok (k48 (nI (trn val n))) (fun r => r = if trn val n % 2 = 0 then 1 else 0)) ?_ ?_
  · have h1 := htb n hn
    rw [show (2 : Int32) = nI 2 from rfl, pk_rem (by omega) (by decide) (by decide)]
    refine ok_if (fun q => ?_) (fun q => ?_)
    · have := (nI_eq0 (by omega)).mp q
      exact ok_some (by rw [if_pos this])
    · have : ¬ trn val n % 2 = 0 := fun h => q ((nI_eq0 (by omega)).mpr h)
      exact ok_some (by rw [if_neg this])
  · intro k48 h48
    refine lo2_F (fun v x => ∃ i : Nat, i ≤ n ∧ v = nI i ∧ x = nI (trn val i)) (fun v _ => n - v.toNatClampNeg) ?_ ⟨0, Nat.zero_le _, nI_0.symm, rfl⟩ (by omega)
    rintro kr v x ⟨i, hi, rfl, rfl⟩ ih
    refine ok_if (fun q => ?_) (fun q => ?_)
    · have e : i = n := by
        have := (nI_leI (by omega) (by omega)).mp q
        omega
      subst e
      exact h48
    · have hlt : i < n := by
        rcases Nat.lt_or_ge i n with q1 | q1
        · exact q1
        · exact absurd ((nI_leI (by omega) (by omega)).mpr q1) q
      refine ok_jn (fun k42 => ok (k42 (nI (trn val (i + 1)))) (fun r => r = if trn val n % 2 = 0 then 1 else 0)) ?_ ?_
      · refine ok_nmr (nI (i + 1)) (nI_1 ..) ?_
        exact ih _ _ ⟨i + 1, hlt, rfl, rfl⟩ (by rw [nI_clamp (by omega), nI_clamp (by omega)]; omega)
      · intro k42 h42
        refine lo2_F (fun v x => ∃ j : Nat, j ≤ i ∧ v = nI j ∧ x = nI (trn val i + cnt j (fun j => decide (val i < val j)))) (fun v _ => i - v.toNatClampNeg) ?_ ⟨0, Nat.zero_le _, nI_0.symm, rfl⟩ (by omega)
        rintro ks v x ⟨j, hj, rfl, rfl⟩ ih2
        refine ok_if (fun q2 => ?_) (fun q2 => ?_)
        · have e : j = i := by
            have := (nI_leI (by omega) (by omega)).mp q2
            omega
          subst e
          exact h42
        · have hj2 : j < i := by
            rcases Nat.lt_or_ge j i with q1 | q1
            · exact q1
            · exact absurd ((nI_leI (by omega) (by omega)).mpr q1) q2
          refine ok_in (vp_in_nI (by omega) (by decide)) (ok_in (vp_in_nI (by omega) (by decide)) ?_)
          obtain ⟨v1, v2⟩ := hv i hlt
          obtain ⟨v3, v4⟩ := hv j (by omega)
          rw [nI_clamp (by omega), nI_clamp (by omega), v1, v3]
          have hc : cnt (j + 1) (fun j => decide (val i < val j)) = cnt j (fun j => decide (val i < val j)) + (if decide (val i < val j) = true then 1 else 0) := rfl
          refine ok_jn (fun k35 => ok (k35 (nI (trn val i + cnt (j + 1) (fun j => decide (val i < val j))))) (fun r => r = if trn val n % 2 = 0 then 1 else 0)) ?_ ?_
          · refine ok_nmr (nI (j + 1)) (nI_1 ..) ?_
            exact ih2 _ _ ⟨j + 1, hj2, rfl, rfl⟩ (by rw [nI_clamp (by omega), nI_clamp (by omega)]; omega)
          · intro k35 h35
            refine ok_if (fun q3 => ?_) (fun q3 => ?_)
            · have := (nI_leI v4 v2).mp q3
              rw [hc, if_neg (by simp; omega)] at h35; exact h35
            · have : ¬ val j ≤ val i := fun h => q3 ((nI_leI v4 v2).mpr h)
              rw [hc, if_pos (by simp; omega)] at h35
              rw [nI_1]; exact h35
