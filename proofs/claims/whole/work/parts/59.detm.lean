/-! determinant: the whole method, over the integers -/
def sI (x : Int) : Int32 := if x = 0 then 0 else if x < 0 then -1 else 1
def tri : Nat → Int
  | 0 => 1
  | n + 1 => tri n * ps n
theorem tri_sq (n : Nat) : tri n * tri n = 1 := by
  induction n with
  | zero => rfl
  | succ n ih =>
    simp only [tri]
    have := ps_sq n
    have e : tri n * ps n * (tri n * ps n) = (tri n * tri n) * (ps n * ps n) := by grind
    rw [e, ih, this]; rfl
theorem xsg {n mi : Int32} {d : Nat → Int32} {v : Int} (h : Nx n mi d v) (hs : sz v 160) : ok (f_N_sign n mi) (fun r => r = sI v) := by
  obtain ⟨c, hc, hN⟩ := Nx_len h hs
  have hz := Nu_zero hN
  have hg := Nu_sgn hN
  obtain ⟨rfl, -⟩ := hN
  unfold f_N_sign sI
  refine ok_if (fun q => ?_) (fun q => ?_)
  · have := (nI_eq0 (by omega)).mp q
    refine ok_some ?_
    rw [if_pos (hz.mp this)]
  · have q1 : v ≠ 0 := fun e => q ((nI_eq0 (by omega)).mpr (hz.mpr e))
    rw [if_neg q1]
    refine ok_if (fun q2 => ?_) (fun q2 => ?_)
    · have := hg.1 q2
      rw [if_neg (by omega)]; exact ok_some rfl
    · rw [if_pos (hg.2 q2)]; exact ok_some rfl
theorem x0 {n mi : Int32} {d : Nat → Int32} {v : Int} (h : Nx n mi d v) (hs : sz v 160) : n = 0 ↔ v = 0 := by
  obtain ⟨c, hc, hN⟩ := Nx_len h hs
  have hz := Nu_zero hN
  obtain ⟨rfl, -⟩ := hN
  rw [nI_eq0 (by omega)]; exact hz
theorem sg_inc {N n r : Nat} {t : Nat → Nat} (hr : r < n) (htn : ∀ i, i < n → t i < N) (hti : ∀ i j, i < j → j < n → t i < t j) : sg (msk N (inP r t)) (t r) = ps r := by
  have h1 : cnt (t r) (msk N (inP r t)).testBit = cnt (t r) (inP r t) := by
    refine cnt_congr (fun e he => ?_)
    have := htn r hr
    rw [msk_bit]; simp [show e < N by omega]
  have h2 : ∀ i j, i < r → j < r → t i = t j → i = j := by
    intro i j hi hj e
    rcases Nat.lt_trichotomy i j with q | q | q
    · have := hti i j q (by omega); omega
    · exact q
    · have := hti j i q (by omega); omega
  rw [sg_ps, h1, inP_cnt (fun i hi => hti i r hi hr) h2]
theorem fbd_sz {r : Nat} (h : r ≤ 6) : fbd (65536 ^ 14) r ≤ 720 * 65536 ^ (14 * r) := by
  have : ∀ r, r < 7 → fbd (65536 ^ 14) r ≤ 720 * 65536 ^ (14 * r) := by
    intro r hr
    match r, hr with
    | 0, _ => decide
    | 1, _ => decide
    | 2, _ => decide
    | 3, _ => decide
    | 4, _ => decide
    | 5, _ => decide
    | 6, _ => decide
  exact this r (by omega)
theorem fbd_szI {r : Nat} (h : r ≤ 6) {v : Int} (hv : v.natAbs ≤ fbd (65536 ^ 14) r) : sz v (14 * r + 1) := by
  have h1 := fbd_sz h
  have h2 : (65536 : Nat) ^ (14 * r + 1) = 65536 ^ (14 * r) * 65536 := Nat.pow_succ ..
  have h3 : 0 < 65536 ^ (14 * r) := Nat.pow_pos (by decide)
  have h4 : ((65536 ^ (14 * r + 1) : Nat) : Int) = (65536 : Int) ^ (14 * r + 1) := Int.natCast_pow 65536 (14 * r + 1)
  unfold sz
  rw [← h4]
  generalize (65536 : Nat) ^ (14 * r + 1) = X at *
  generalize (65536 : Nat) ^ (14 * r) = Y at *
  omega
theorem sI_mul {d : Int} {g : Int32} (hd : d = 1 ∧ g = 1 ∨ d = -1 ∧ g = -1) (x : Int) : g * sI x = sI (d * x) := by
  rcases hd with ⟨rfl, rfl⟩ | ⟨rfl, rfl⟩
  · rw [Int.one_mul]; exact Int32.one_mul _
  · unfold sI
    by_cases q1 : x = 0
    · subst q1; decide
    · by_cases q2 : x < 0
      · rw [if_neg q1, if_pos q2, if_neg (by omega), if_neg (by omega)]; decide
      · rw [if_neg q1, if_neg q2, if_neg (by omega), if_pos (by omega)]; decide
