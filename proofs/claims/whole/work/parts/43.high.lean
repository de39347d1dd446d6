/-! the product of rows has no more columns than the reduced matrix has rows -/
def vac (S : Nat) : Int := if S = 0 then 1 else 0
def wl (n : Nat) : List (Nat → Int) → Nat → Int
  | [] => vac
  | r :: rs => wd n r (wl n rs)
theorem wd_sum {n k : Nat} {r : Nat → Int} {c : Nat → Int} {W : Nat → Nat → Int} {S : Nat} : wd n r (fun T => sm k (fun x => c x * W x T)) S = sm k (fun x => c x * wd n r (W x) S) := by
  have h1 : ∀ x, c x * wd n r (W x) S = sm n (fun e => if S.testBit e = true then sg S e * r e * (c x * W x (tg S e)) else 0) := by
    intro x
    unfold wd
    rw [← sm_mul]
    refine sm_congr (fun e _ => ?_)
    by_cases q : S.testBit e = true
    · rw [if_pos q, if_pos q]; grind
    · rw [if_neg q, if_neg q]; simp
  rw [sm_congr (fun x _ => h1 x), ← sm_comm]
  unfold wd
  refine sm_congr (fun e _ => ?_)
  by_cases q : S.testBit e = true
  · rw [if_pos q, sm_congr (fun x _ => if_pos q), sm_mul]
  · rw [if_neg q, sm_z (fun x _ => if_neg q)]
theorem wd_zero {m : Int} {n : Nat} {r w : Nat → Int} (h : ∀ S, m ∣ w S) (S : Nat) : m ∣ wd n r w S := by
  unfold wd
  refine sm_dvd (fun e _ => ?_)
  split
  · exact Int.dvd_mul_of_dvd_right (h _)
  · exact Int.dvd_zero _
/-- taking out along a functional -/
def af (n : Nat) (c : Nat → Int) (w : Nat → Int) (S : Nat) : Int := sm n (fun x => c x * an x w S)
theorem af_wd {n : Nat} {c r w : Nat → Int} {S : Nat} : af n c (wd n r w) S = sm n (fun x => c x * r x) * w S - wd n r (af n c w) S := by
  have h1 : wd n r (af n c w) S = sm n (fun x => c x * wd n r (an x w) S) := wd_sum
  rw [h1]
  unfold af
  have h2 : ∀ x, x < n → c x * an x (wd n r w) S = w S * (c x * r x) + - (c x * wd n r (an x w) S) := by
    intro x hx
    rw [an_wd hx]; grind
  rw [sm_congr h2, sm_add, sm_mul, sm_neg]
  grind
theorem af_wl {m : Int} {n : Nat} {c : Nat → Int} {rs : List (Nat → Int)} (h : ∀ r ∈ rs, m ∣ sm n (fun x => c x * r x)) : ∀ S, m ∣ af n c (wl n rs) S := by
  induction rs with
  | nil =>
    intro S
    unfold af
    refine sm_dvd (fun x _ => ?_)
    have e : an x (wl n []) S = 0 := by
      unfold an
      by_cases q : S.testBit x = true
      · rw [if_pos q]
      · rw [if_neg q]
        have h0 : tg S x ≠ 0 := by
          intro e
          have h1 : (tg S x).testBit x = true := by rw [tg_self]; simpa using q
          rw [e, Nat.zero_testBit] at h1
          cases h1
        simp only [wl, vac]
        rw [if_neg h0]; simp
    rw [e]; simp
  | cons r rs ih =>
    intro S
    simp only [wl]
    rw [af_wd]
    exact Int.dvd_sub (Int.dvd_mul_of_dvd_left (h r List.mem_cons_self)) (wd_zero (ih (fun q hq => h q (List.mem_cons_of_mem _ hq))) S)
section High
variable {m n R : Nat} {pv : Nat → Nat}
theorem wl_high (hm : FdP m) (hpn : ∀ i, i < R → pv i < n) (hinj : ∀ i j, i < R → j < R → pv i = pv j → i = j) {w : Nat → Int} (hP : ¬ (m : Int) ∣ w (msk n (inP R pv))) {rs : List (Nat → Int)} (hr : ∀ r ∈ rs, ∀ S, (m : Int) ∣ wd n r w S) : ∀ (k S : Nat), R < cnt n S.testBit → oc n R pv S ≤ k → (m : Int) ∣ wl n rs S := by
  have hcnt := inP_cnt hpn hinj
  intro k
  induction k with
  | zero =>
    intro S hc hk
    exfalso
    have hsp := cnt_split n S.testBit (inP R pv)
    have h1 := cnt_le (n := n) (f := fun e => S.testBit e && inP R pv e) (g := inP R pv) (fun e _ h => by simp at h; exact h.2)
    unfold oc at hk
    omega
  | succ k ih =>
    intro S hc hk
    have hsp := cnt_split n S.testBit (inP R pv)
    have h1 := cnt_le (n := n) (f := fun e => S.testBit e && inP R pv e) (g := inP R pv) (fun e _ h => by simp at h; exact h.2)
    have h0 : cnt n (fun _ => false) < oc n R pv S := by
      have : ∀ n, cnt n (fun _ => false) = 0 := by
        intro n
        induction n with
        | zero => rfl
        | succ n ih => simp only [cnt]; rw [ih]; simp
      rw [this]
      unfold oc
      omega
    obtain ⟨e, he, q, -⟩ := cnt_ex h0
    simp only [Bool.and_eq_true, Bool.not_eq_true'] at q
    generalize hp : msk n (inP R pv) = P at hP
    have hPe : P.testBit e = false := by rw [← hp, msk_bit, q.2]; simp
    -- the functional
    have hf : ∀ r ∈ rs, (m : Int) ∣ sm n (fun x => (if (tg P e).testBit x = true then sg (tg P e) x * w (tg (tg P e) x) else 0) * r x) := by
      intro r hrr
      have h3 := hr r hrr (tg P e)
      unfold wd at h3
      have e3 : sm n (fun x => (if (tg P e).testBit x = true then sg (tg P e) x * w (tg (tg P e) x) else 0) * r x) = sm n (fun x => if (tg P e).testBit x = true then sg (tg P e) x * r x * w (tg (tg P e) x) else 0) := by
        refine sm_congr (fun x _ => ?_)
        by_cases q4 : (tg P e).testBit x = true
        · rw [if_pos q4, if_pos q4]; grind
        · rw [if_neg q4, if_neg q4]; simp
      rw [e3]; exact h3
    have h4 := af_wl (n := n) hf (tg S e)
    unfold af at h4
    have hbe : (tg S e).testBit e = false := by rw [tg_self, q.1]; rfl
    -- all terms but that of e are zero
    have h5 : ∀ x, x < n → x ≠ e → (m : Int) ∣ (if (tg P e).testBit x = true then sg (tg P e) x * w (tg (tg P e) x) else 0) * an x (wl n rs) (tg S e) := by
      intro x hx hxe
      by_cases q4 : (tg P e).testBit x = true
      · unfold an
        by_cases q5 : (tg S e).testBit x = true
        · rw [if_pos q5]; simp
        · rw [if_neg q5]
          refine Int.dvd_mul_of_dvd_right (Int.dvd_mul_of_dvd_right ?_)
          have hxP : inP R pv x = true := by
            rw [tg_ne (fun h => hxe h.symm), ← hp, msk_bit] at q4
            simp at q4; exact q4.2
          refine ih _ ?_ ?_
          · have c1 := cnt_tg he S
            have c2 := cnt_tg hx (tg S e)
            rw [q.1] at c1
            have q6 : (tg S e).testBit x = false := by simpa using q5
            rw [q6] at c2
            simp at c1 c2
            omega
          · rw [oc_P hxP]
            have c1 := oc_N (n := n) (R := R) (pv := pv) he q.2 q.1
            omega
      · rw [if_neg q4]; simp
    have h6 : (m : Int) ∣ (if (tg P e).testBit e = true then sg (tg P e) e * w (tg (tg P e) e) else 0) * an e (wl n rs) (tg S e) := by
      have e7 : ∀ x, x < n → (if (tg P e).testBit x = true then sg (tg P e) x * w (tg (tg P e) x) else 0) * an x (wl n rs) (tg S e) = (if x = e then (if (tg P e).testBit e = true then sg (tg P e) e * w (tg (tg P e) e) else 0) * an e (wl n rs) (tg S e) else 0) + (if x = e then 0 else (if (tg P e).testBit x = true then sg (tg P e) x * w (tg (tg P e) x) else 0) * an x (wl n rs) (tg S e)) := by
        intro x _
        by_cases q4 : x = e
        · subst q4; simp
        · rw [if_neg q4, if_neg q4]; omega
      rw [sm_congr e7, sm_add, sm_one he] at h4
      have h8 : (m : Int) ∣ sm n (fun x => if x = e then 0 else (if (tg P e).testBit x = true then sg (tg P e) x * w (tg (tg P e) x) else 0) * an x (wl n rs) (tg S e)) := by
        refine sm_dvd (fun x hx => ?_)
        by_cases q4 : x = e
        · rw [if_pos q4]; exact Int.dvd_zero _
        · rw [if_neg q4]; exact h5 x hx q4
      have h9 := Int.dvd_sub h4 h8
      rw [Int.add_sub_cancel] at h9
      exact h9
    rw [tg_self, hPe, tg_tg] at h6
    unfold an at h6
    rw [hbe, tg_tg] at h6
    simp only [Bool.not_false, if_true, Bool.false_eq_true, if_false] at h6
    rw [Int.mul_assoc] at h6
    have h10 := fd_canc hm hP (sg_canc h6)
    exact sg_canc h10
end High
