/-! forms modulo m, m = 0 or a prime of PR: a domain -/
def FdP (m : Nat) : Prop := m = 0 ∨ m ∈ PR
theorem fd_dom {m : Nat} (hm : FdP m) {a b : Int} (h : (m : Int) ∣ a * b) : (m : Int) ∣ a ∨ (m : Int) ∣ b := by
  rcases hm with h0 | hp
  · subst h0
    have h1 : a * b = 0 := Int.zero_dvd.mp h
    rcases Int.mul_eq_zero.mp h1 with e | e
    · exact Or.inl (by rw [e]; exact Int.dvd_zero _)
    · exact Or.inr (by rw [e]; exact Int.dvd_zero _)
  · obtain ⟨p0, p1⟩ := pr_le m hp
    by_cases ha : (m : Int) ∣ a
    · exact Or.inl ha
    · right
      have r0 : 0 ≤ a % m := Int.emod_nonneg _ (by omega)
      have r1 : a % m < m := Int.emod_lt_of_pos _ (by omega)
      have r2 : a % m ≠ 0 := fun e => ha (Int.dvd_of_emod_eq_zero e)
      obtain ⟨v, hv⟩ : ∃ v : Nat, a % m = (v : Int) := ⟨(a % m).toNat, by omega⟩
      have h2 := pr_inv hp (v := v) (by omega) (by omega)
      generalize v ^ (m - 2) % m = x at h2
      have h3 := Nat.div_add_mod (x * v) m
      rw [h2] at h3
      have h4 : (x : Int) * v = 1 + m * ((x * v / m : Nat) : Int) := by
        have q : ((m * (x * v / m) + 1 : Nat) : Int) = ((x * v : Nat) : Int) := by rw [h3]
        push_cast at q ⊢
        omega
      have h5 := Int.mul_ediv_add_emod a m
      rw [hv] at h5
      obtain ⟨c, hc⟩ := h
      generalize ((x * v / m : Nat) : Int) = q at h4
      generalize a / (m : Int) = t at h5
      refine ⟨x * c - x * t * b - q * b, ?_⟩
      have h6 : b = (x : Int) * v * b - m * q * b := by rw [h4]; grind
      rw [h6]
      have h7 : (v : Int) = a - m * t := by omega
      rw [h7]
      grind
theorem fd_canc {m : Nat} (hm : FdP m) {a b : Int} (ha : ¬ (m : Int) ∣ a) (h : (m : Int) ∣ a * b) : (m : Int) ∣ b := by
  rcases fd_dom hm h with q | q
  · exact absurd q ha
  · exact q
theorem sm_lin (n : Nat) (g x y : Int) (f1 f2 f3 : Nat → Int) : g * sm n f1 - (x * sm n f2 - y * sm n f3) = sm n (fun e => g * f1 e - (x * f2 e - y * f3 e)) := by
  induction n with
  | zero => simp [sm]
  | succ n ih => simp only [sm]; rw [← ih]; grind
theorem wd_lin3 {m : Int} {n : Nat} {a' a b w : Nat → Int} {g x y : Int} (h : ∀ e, e < n → m ∣ g * a' e - (x * a e - y * b e)) (S : Nat) : m ∣ g * wd n a' w S - (x * wd n a w S - y * wd n b w S) := by
  unfold wd
  rw [sm_lin]
  refine sm_dvd (fun e he => ?_)
  by_cases q : S.testBit e = true
  · rw [if_pos q, if_pos q, if_pos q]
    obtain ⟨c, hc⟩ := h e he
    refine ⟨sg S e * c * w (tg S e), ?_⟩
    have : g * (sg S e * a' e * w (tg S e)) - (x * (sg S e * a e * w (tg S e)) - y * (sg S e * b e * w (tg S e))) = sg S e * (g * a' e - (x * a e - y * b e)) * w (tg S e) := by grind
    rw [this, hc]; grind
  · rw [if_neg q, if_neg q, if_neg q]
    exact ⟨0, by omega⟩
/-- every row of the matrix kills the form -/
def Kill (m : Int) (n rows : Nat) (E : Nat → Nat → Int) (w : Nat → Int) : Prop := ∀ i, i < rows → ∀ S, m ∣ wd n (E i) w S
/-- one row operation, both ways -/
theorem kill_op {m : Nat} (hm : FdP m) {n : Nat} {a' a b w : Nat → Int} {g x y : Int} (h : ∀ e, e < n → (m : Int) ∣ g * a' e - (x * a e - y * b e)) (hb : ∀ S, (m : Int) ∣ wd n b w S) (hg : ¬ (m : Int) ∣ g) (hx : ¬ (m : Int) ∣ x) : (∀ S, (m : Int) ∣ wd n a' w S) ↔ ∀ S, (m : Int) ∣ wd n a w S := by
  constructor
  · intro h1 S
    have h2 := wd_lin3 (w := w) h S
    have h3 := Int.dvd_mul_of_dvd_right (h1 S) (b := g)
    have h4 := Int.dvd_mul_of_dvd_right (hb S) (b := y)
    refine fd_canc hm hx ?_
    have e : x * wd n a w S = g * wd n a' w S + y * wd n b w S - (g * wd n a' w S - (x * wd n a w S - y * wd n b w S)) := by omega
    rw [e]
    exact Int.dvd_sub (Int.dvd_add h3 h4) h2
  · intro h1 S
    have h2 := wd_lin3 (w := w) h S
    have h3 := Int.dvd_mul_of_dvd_right (h1 S) (b := x)
    have h4 := Int.dvd_mul_of_dvd_right (hb S) (b := y)
    refine fd_canc hm hg ?_
    have e : g * wd n a' w S = (g * wd n a' w S - (x * wd n a w S - y * wd n b w S)) + (x * wd n a w S - y * wd n b w S) := by omega
    rw [e]
    exact Int.dvd_add h2 (Int.dvd_sub h3 h4)
/-- a row times a form, at a set with one column more -/
theorem wd_at {n p : Nat} (hp : p < n) (a w : Nat → Int) {S : Nat} (hS : S.testBit p = false) : wd n a w (tg S p) = sg S p * a p * w S + sm n (fun e => if S.testBit e = true then sg (tg S p) e * a e * w (tg (tg S p) e) else 0) := by
  have h1 : ∀ e, e < n → (if (tg S p).testBit e = true then sg (tg S p) e * a e * w (tg (tg S p) e) else 0) = (if e = p then sg S p * a p * w S else 0) + (if S.testBit e = true then sg (tg S p) e * a e * w (tg (tg S p) e) else 0) := by
    intro e _
    by_cases q : e = p
    · subst q
      rw [tg_self, hS, sg_tg, if_neg (Nat.lt_irrefl e), tg_tg]
      simp
    · rw [tg_ne (fun h => q h.symm), if_neg q]; omega
  unfold wd
  rw [sm_congr h1, sm_add, sm_one hp]
/-! counting -/
def cnt : Nat → (Nat → Bool) → Nat
  | 0, _ => 0
  | n + 1, f => cnt n f + (if f n = true then 1 else 0)
theorem cnt_congr {n : Nat} {f g : Nat → Bool} (h : ∀ e, e < n → f e = g e) : cnt n f = cnt n g := by
  induction n with
  | zero => rfl
  | succ n ih => simp only [cnt]; rw [ih (fun e he => h e (by omega)), h n (by omega)]
theorem cnt_le {n : Nat} {f g : Nat → Bool} (h : ∀ e, e < n → f e = true → g e = true) : cnt n f ≤ cnt n g := by
  induction n with
  | zero => exact Nat.le_refl _
  | succ n ih =>
    simp only [cnt]
    have h1 := ih (fun e he => h e (by omega))
    by_cases q : f n = true
    · rw [if_pos q, if_pos (h n (by omega) q)]; omega
    · rw [if_neg q]; omega
theorem cnt_eq {n : Nat} {f g : Nat → Bool} (h : ∀ e, e < n → f e = true → g e = true) (hc : cnt n g ≤ cnt n f) : ∀ e, e < n → g e = true → f e = true := by
  induction n with
  | zero => intro e he; omega
  | succ n ih =>
    simp only [cnt] at hc
    have h1 := cnt_le (n := n) (fun e he => h e (by omega))
    have h2 : f n = true → g n = true := h n (by omega)
    have h3 : g n = true → f n = true := by
      intro q
      by_cases q2 : f n = true
      · exact q2
      · rw [if_pos q, if_neg q2] at hc; omega
    have h4 : cnt n g ≤ cnt n f := by
      by_cases q : f n = true
      · rw [if_pos q, if_pos (h2 q)] at hc; omega
      · have q2 : ¬ g n = true := fun e => q (h3 e)
        rw [if_neg q, if_neg q2] at hc; omega
    intro e he q
    by_cases q2 : e = n
    · subst q2; exact h3 q
    · exact ih (fun e he => h e (by omega)) h4 e (by omega) q
theorem cnt_ex {n : Nat} {f g : Nat → Bool} (hc : cnt n f < cnt n g) : ∃ e, e < n ∧ g e = true ∧ f e = false := by
  induction n with
  | zero => simp [cnt] at hc
  | succ n ih =>
    simp only [cnt] at hc
    by_cases q : g n = true ∧ f n = false
    · exact ⟨n, by omega, q.1, q.2⟩
    · have h1 : cnt n f < cnt n g := by
        by_cases q1 : g n = true
        · have q2 : f n = true := by
            by_cases q3 : f n = true
            · exact q3
            · exact absurd ⟨q1, by simpa using q3⟩ q
          rw [if_pos q1, if_pos q2] at hc; omega
        · rw [if_neg q1] at hc; omega
      obtain ⟨e, h2, h3, h4⟩ := ih h1
      exact ⟨e, by omega, h3, h4⟩
theorem cnt_split (n : Nat) (f g : Nat → Bool) : cnt n (fun e => f e && g e) + cnt n (fun e => f e && !g e) = cnt n f := by
  induction n with
  | zero => rfl
  | succ n ih =>
    simp only [cnt]
    by_cases q : f n = true <;> by_cases q2 : g n = true <;> simp [q, q2] <;> omega
theorem cnt_tg {n e : Nat} (he : e < n) (S : Nat) : cnt n (tg S e).testBit + (if S.testBit e = true then 1 else 0) = cnt n S.testBit + (if S.testBit e = true then 0 else 1) := by
  induction n with
  | zero => omega
  | succ n ih =>
    simp only [cnt]
    by_cases q : e = n
    · subst q
      rw [tg_self, cnt_congr (fun j hj => tg_ne (by omega))]
      cases S.testBit e <;> simp
    · rw [tg_ne q]
      have := ih (by omega)
      omega
