/-! finite sums of integers; the exterior algebra over masks of columns -/
def sm : Nat → (Nat → Int) → Int
  | 0, _ => 0
  | n + 1, f => sm n f + f n
theorem sm_congr {n : Nat} {f g : Nat → Int} (h : ∀ e, e < n → f e = g e) : sm n f = sm n g := by
  induction n with
  | zero => rfl
  | succ n ih => simp only [sm]; rw [ih (fun e he => h e (by omega)), h n (by omega)]
theorem sm_add (n : Nat) (f g : Nat → Int) : sm n (fun e => f e + g e) = sm n f + sm n g := by
  induction n with
  | zero => rfl
  | succ n ih => simp only [sm]; rw [ih]; omega
theorem sm_mul (n : Nat) (c : Int) (f : Nat → Int) : sm n (fun e => c * f e) = c * sm n f := by
  induction n with
  | zero => simp [sm]
  | succ n ih => simp only [sm]; rw [ih, Int.mul_add]
theorem sm_neg (n : Nat) (f : Nat → Int) : sm n (fun e => - f e) = - sm n f := by
  induction n with
  | zero => rfl
  | succ n ih => simp only [sm]; rw [ih]; omega
theorem sm_zero (n : Nat) : sm n (fun _ => 0) = 0 := by
  induction n with
  | zero => rfl
  | succ n ih => simp only [sm]; rw [ih]; rfl
theorem sm_z {n : Nat} {f : Nat → Int} (h : ∀ e, e < n → f e = 0) : sm n f = 0 := by
  rw [sm_congr h, sm_zero]
theorem sm_one {n k : Nat} (hk : k < n) (x : Int) : sm n (fun e => if e = k then x else 0) = x := by
  induction n with
  | zero => omega
  | succ n ih =>
    simp only [sm]
    by_cases h : k = n
    · subst h
      rw [sm_z (fun e he => if_neg (by omega)), if_pos rfl]; omega
    · rw [ih (by omega), if_neg (by omega)]; omega
theorem sm_comm (n k : Nat) (f : Nat → Nat → Int) : sm n (fun a => sm k (fun b => f a b)) = sm k (fun b => sm n (fun a => f a b)) := by
  induction n with
  | zero => simp only [sm]; rw [sm_zero]
  | succ n ih => simp only [sm]; rw [ih, ← sm_add]
theorem sm_dvd {n : Nat} {f : Nat → Int} {m : Int} (h : ∀ e, e < n → m ∣ f e) : m ∣ sm n f := by
  induction n with
  | zero => exact Int.dvd_zero m
  | succ n ih => simp only [sm]; exact Int.dvd_add (ih (fun e he => h e (by omega))) (h n (by omega))
/-- the sign of e in the set S: one turn for each column of S below e -/
def sg (S : Nat) : Nat → Int
  | 0 => 1
  | e + 1 => if S.testBit e = true then - sg S e else sg S e
def tg (S e : Nat) : Nat := S ^^^ 2 ^ e
theorem tg_bit (S e i : Nat) : (tg S e).testBit i = (S.testBit i ^^ decide (e = i)) := by
  unfold tg; rw [Nat.testBit_xor, Nat.testBit_two_pow]
theorem tg_self (S e : Nat) : (tg S e).testBit e = !S.testBit e := by rw [tg_bit]; simp
theorem tg_ne {S e i : Nat} (h : e ≠ i) : (tg S e).testBit i = S.testBit i := by rw [tg_bit]; simp [h]
theorem tg_tg (S e : Nat) : tg (tg S e) e = S := by unfold tg; rw [Nat.xor_assoc, Nat.xor_self, Nat.xor_zero]
theorem tg_comm (S e f : Nat) : tg (tg S e) f = tg (tg S f) e := by unfold tg; rw [Nat.xor_assoc, Nat.xor_comm (2 ^ e), ← Nat.xor_assoc]
theorem tg_lt {S e n : Nat} (hS : S < 2 ^ n) (he : e < n) : tg S e < 2 ^ n := Nat.xor_lt_two_pow hS (Nat.pow_lt_pow_right (by omega) he)
theorem sg_tg (S f e : Nat) : sg (tg S f) e = if f < e then - sg S e else sg S e := by
  induction e with
  | zero => simp [sg]
  | succ e ih =>
    simp only [sg]
    rw [ih]
    by_cases h : f = e
    · subst h
      rw [tg_self, if_neg (Nat.lt_irrefl f), if_pos (Nat.lt_succ_self f)]
      cases S.testBit f <;> simp
    · rw [tg_ne h]
      by_cases h1 : f < e
      · rw [if_pos h1, if_pos (show f < e + 1 by omega)]; split <;> rfl
      · rw [if_neg h1, if_neg (show ¬ f < e + 1 by omega)]
theorem sg_sq (S e : Nat) : sg S e * sg S e = 1 := by
  induction e with
  | zero => rfl
  | succ e ih =>
    simp only [sg]
    split
    · rw [Int.neg_mul_neg]; exact ih
    · exact ih
theorem sg_or (S e : Nat) : sg S e = 1 ∨ sg S e = -1 := by
  induction e with
  | zero => exact Or.inl rfl
  | succ e ih => simp only [sg]; split <;> rcases ih with h | h <;> simp [h]
/-- a row times a form -/
def wd (n : Nat) (a : Nat → Int) (w : Nat → Int) (S : Nat) : Int := sm n (fun e => if S.testBit e = true then sg S e * a e * w (tg S e) else 0)
/-- a column taken out of a form -/
def an (f : Nat) (w : Nat → Int) (S : Nat) : Int := if S.testBit f = true then 0 else sg S f * w (tg S f)
theorem an_wd {n f : Nat} (hf : f < n) (a w : Nat → Int) (S : Nat) : an f (wd n a w) S = a f * w S - wd n a (an f w) S := by
  have key : ∀ e, e < n → (if S.testBit f = true then 0 else sg S f * (if (tg S f).testBit e = true then sg (tg S f) e * a e * w (tg (tg S f) e) else 0)) + (if S.testBit e = true then sg S e * a e * an f w (tg S e) else 0) = if e = f then a f * w S else 0 := by
    intro e _
    by_cases hef : e = f
    · subst hef
      rw [if_pos rfl, tg_self, sg_tg, if_neg (Nat.lt_irrefl e), tg_tg]
      unfold an
      rw [tg_self, sg_tg, if_neg (Nat.lt_irrefl e), tg_tg]
      have q := sg_sq S e
      cases S.testBit e <;> simp <;> grind
    · rw [if_neg hef, tg_ne (fun h => hef h.symm)]
      unfold an
      rw [tg_ne hef, sg_tg, sg_tg, tg_comm S e f]
      cases S.testBit e <;> cases S.testBit f <;> simp
      by_cases h1 : f < e
      · rw [if_pos h1, if_neg (show ¬ e < f by omega)]; grind
      · rw [if_neg h1, if_pos (show e < f by omega)]; grind
  have h2 := sm_congr key
  rw [sm_add, sm_one hf] at h2
  have h3 : an f (wd n a w) S = sm n (fun e => if S.testBit f = true then 0 else sg S f * (if (tg S f).testBit e = true then sg (tg S f) e * a e * w (tg (tg S f) e) else 0)) := by
    unfold an
    by_cases hS : S.testBit f = true
    · rw [if_pos hS]; rw [sm_z (fun e _ => if_pos hS)]
    · rw [if_neg hS]
      unfold wd
      rw [← sm_mul]
      exact sm_congr (fun e _ => (if_neg hS).symm)
  rw [h3]
  unfold wd
  omega
theorem wd_wd (n : Nat) (a b w : Nat → Int) (S : Nat) : wd n a (wd n b w) S = - wd n b (wd n a w) S := by
  have e1 : ∀ (a b : Nat → Int), wd n a (wd n b w) S = sm n (fun e => sm n (fun f => if S.testBit e = true then sg S e * a e * (if (tg S e).testBit f = true then sg (tg S e) f * b f * w (tg (tg S e) f) else 0) else 0)) := by
    intro a b
    unfold wd
    refine sm_congr (fun e _ => ?_)
    by_cases h : S.testBit e = true
    · rw [if_pos h, ← sm_mul]; exact sm_congr (fun f _ => (if_pos h).symm)
    · rw [if_neg h, sm_z (fun f _ => if_neg h)]
  rw [e1 a b, e1 b a, sm_comm, ← sm_neg]
  refine sm_congr (fun f _ => ?_)
  rw [← sm_neg]
  refine sm_congr (fun e _ => ?_)
  by_cases hef : e = f
  · subst hef
    rw [tg_self]
    cases S.testBit e <;> simp
  · rw [tg_ne hef, tg_ne (fun h => hef h.symm), sg_tg, sg_tg, tg_comm S e f]
    cases S.testBit e <;> cases S.testBit f <;> simp
    by_cases h1 : f < e
    · rw [if_pos h1, if_neg (show ¬ e < f by omega)]; grind
    · rw [if_neg h1, if_pos (show e < f by omega)]; grind
