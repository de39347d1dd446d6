/-! the pool of numbers as integers; the greatest common divisor -/
def sz (v : Int) (b : Nat) : Prop := -(65536 : Int) ^ b < v ∧ v < 65536 ^ b
theorem sz_mono {v : Int} {b c : Nat} (h : sz v b) (hc : b ≤ c) : sz v c := by
  have := pw_mono hc
  exact ⟨by have := h.1; omega, by have := h.2; omega⟩
theorem Nu_abs {n mi : Int32} {d : Nat → Int32} {c : Nat} {v : Int} (h : Nu n mi d c v) : (v.natAbs : Int) = nv d c := by
  have h0 := nv_nn h.2.1
  rw [h.2.2.2.2.2]; split <;> omega
theorem Nu_len {n mi : Int32} {d : Nat → Int32} {c b : Nat} {v : Int} (h : Nu n mi d c v) (hs : sz v b) : c ≤ b := by
  rcases Nat.lt_or_ge b c with q | q
  · exfalso
    obtain ⟨j, rfl⟩ : ∃ j, c = j + 1 := ⟨c - 1, by omega⟩
    have h1 := nv_top h.2.1 (h.2.2.1 (by omega))
    have h2 := Nu_abs h
    have h3 : (65536 : Int) ^ b ≤ 65536 ^ j := pw_mono (by omega)
    have h4 := hs.1
    have h5 := hs.2
    omega
  · exact q
theorem Nu_zero {n mi : Int32} {d : Nat → Int32} {c : Nat} {v : Int} (h : Nu n mi d c v) : c = 0 ↔ v = 0 := by
  have h2 := Nu_abs h
  constructor
  · intro e; subst e; simp only [nv] at h2; omega
  · intro e
    rcases Nat.eq_zero_or_pos c with q | q
    · exact q
    · exfalso
      obtain ⟨j, rfl⟩ : ∃ j, c = j + 1 := ⟨c - 1, by omega⟩
      have h1 := nv_top h.2.1 (h.2.2.1 (by omega))
      have := pw_pos j
      subst e
      simp at h2
      omega
def Nx (n mi : Int32) (d : Nat → Int32) (v : Int) : Prop := ∃ c, Nu n mi d c v
theorem Nx_len {n mi : Int32} {d : Nat → Int32} {b : Nat} {v : Int} (h : Nx n mi d v) (hs : sz v b) : ∃ c, c ≤ b ∧ Nu n mi d c v := by
  obtain ⟨c, hc⟩ := h; exact ⟨c, Nu_len hc hs, hc⟩
theorem xcp {n mi : Int32} {d x : Nat → Int32} {v : Int} (h : Nx n mi d v) (hs : sz v 160) : ok (f_N_copy 160 x n mi 160 d) (fun r => Nx r.1 r.2.1 r.2.2 v) := by
  obtain ⟨c, hc, hN⟩ := Nx_len h hs
  obtain ⟨rfl, h1, h2, h3, h4, h5⟩ := hN
  refine ok_mono (cp_ok hc h3) ?_
  rintro ⟨r1, r2, r3⟩ ⟨e1, e2, e3, -⟩
  dsimp only at e1 e2 e3 ⊢
  subst e1; subst e2
  refine ⟨c, rfl, dg_congr (fun j hj => (e3 j hj).symm) h1, fun q => ?_, h3, h4, ?_⟩
  · rw [e3 _ (by omega)]; exact h2 q
  · rw [h5, nv_congr (fun j hj => e3 j hj)]
theorem xls {na ma nb mb : Int32} {da db x : Nat → Int32} {va vb : Int} (ha : Nx na ma da va) (hb : Nx nb mb db vb) (h1 : sz va 158) (h2 : sz vb 158) : ok (f_N_less 160 x na ma 160 da nb mb 160 db) (fun r => Nx r.1 r.2.1 r.2.2 (va - vb)) := by
  obtain ⟨c, hc, hN⟩ := Nx_len ha h1
  obtain ⟨e, he, hM⟩ := Nx_len hb h2
  exact ok_mono (ls_ok hN hM hc he) (fun r ⟨k, _, h⟩ => ⟨k, h⟩)
theorem xpr {na ma nb mb : Int32} {da db x : Nat → Int32} {va vb : Int} {p q : Nat} (ha : Nx na ma da va) (hb : Nx nb mb db vb) (h1 : sz va p) (h2 : sz vb q) (hpq : p + q ≤ 159) : ok (f_N_product 160 x na ma 160 da nb mb 160 db) (fun r => Nx r.1 r.2.1 r.2.2 (va * vb)) := by
  obtain ⟨c, hc, hN⟩ := Nx_len ha h1
  obtain ⟨e, he, hM⟩ := Nx_len hb h2
  exact ok_mono (pr_ok hN hM (by omega)) (fun r ⟨k, _, h⟩ => ⟨k, h⟩)
theorem xqt {na ma nb mb : Int32} {da db x wd : Nat → Int32} {va vb : Int} (ha : Nx na ma da va) (hb : Nx nb mb db vb) (h1 : sz va 160) (h2 : sz vb 158) (hb0 : vb ≠ 0) : ok (f_N_quotient 160 x na ma 160 da nb mb 160 db 160 wd) (fun r => Nx r.1 r.2.1 r.2.2.1 (va.tdiv vb) ∧ Nx r.2.2.2.1 r.2.2.2.2.1 r.2.2.2.2.2 (va.natAbs % vb.natAbs : Nat)) := by
  obtain ⟨c, hc, hN⟩ := Nx_len ha h1
  obtain ⟨e, he, hM⟩ := Nx_len hb h2
  exact ok_mono (qt_ok hN hM hc he hb0) (fun r ⟨k, t, _, _, h, h'⟩ => ⟨⟨k, h⟩, ⟨t, h'⟩⟩)
/-- the pool holds the integers V -/
def PO (pn pm : Nat → Int32) (pd : Nat → Nat → Int32) (V : Nat → Int) : Prop := ∀ k, k < 200 → Nx (pn k) (pm k) (pd k) (V k)
def vu (V : Nat → Int) (k : Nat) (v : Int) : Nat → Int := fun j => if j = k then v else V j
theorem vu_s {V : Nat → Int} {k : Nat} {v : Int} : vu V k v k = v := if_pos rfl
theorem vu_n {V : Nat → Int} {k j : Nat} {v : Int} (h : j ≠ k) : vu V k v j = V j := if_neg h
theorem PO.up {pn pm : Nat → Int32} {pd : Nat → Nat → Int32} {V : Nat → Int} (h : PO pn pm pd V) {k : Nat} {n mi : Int32} {d : Nat → Int32} {v : Int} (hn : Nx n mi d v) : PO (upd pn k n) (upd pm k mi) (va_up pd k d) (vu V k v) := by
  intro j hj
  by_cases q : j = k
  · subst q; rw [pk_us, pk_us, vu_s]; unfold va_up; rw [if_pos rfl]; exact hn
  · rw [pk_un q, pk_un q, vu_n q]; unfold va_up; rw [if_neg q]; exact h j hj
theorem PO.abs {pn pm : Nat → Int32} {pd : Nat → Nat → Int32} {V : Nat → Int} (h : PO pn pm pd V) {k : Nat} (hk : k < 200) : PO pn (upd pm k 0) pd (vu V k (V k).natAbs) := by
  intro j hj
  by_cases q : j = k
  · subst q
    rw [pk_us, vu_s]
    obtain ⟨c, hc⟩ := h j hj
    exact ⟨c, hc.1, hc.2.1, hc.2.2.1, Or.inl rfl, fun _ => rfl, by rw [if_pos rfl]; exact Nu_abs hc⟩
  · rw [pk_un q, vu_n q]; exact h j hj
def meas (x y : Nat) : Nat := if y = 0 then 0 else 2 * (Nat.log2 (x * y) + 1) + (if x < y then 1 else 0)
theorem meas_lt {x y : Nat} (hy : y ≠ 0) : meas y (x % y) < meas x y := by
  unfold meas
  rw [if_neg hy]
  by_cases h0 : x % y = 0
  · rw [if_pos h0]; omega
  · rw [if_neg h0]
    have hr : x % y < y := Nat.mod_lt _ (by omega)
    rw [if_neg (by omega)]
    by_cases hx : x < y
    · rw [if_pos hx, Nat.mod_eq_of_lt hx, Nat.mul_comm y x]; omega
    · rw [if_neg hx]
      have h1 : 2 * (x % y) < x := by
        have := Nat.div_add_mod x y
        have h2 : 1 ≤ x / y := (Nat.one_le_div_iff (by omega)).mpr (by omega)
        have h3 : y * 1 ≤ y * (x / y) := Nat.mul_le_mul_left y h2
        omega
      have h4 : 2 * (y * (x % y)) ≤ x * y := by
        have : y * (2 * (x % y)) ≤ y * x := Nat.mul_le_mul_left y (by omega)
        rw [Nat.mul_left_comm] at this
        rw [Nat.mul_comm x y]; exact this
      have h5 : y * (x % y) ≠ 0 := Nat.mul_ne_zero hy h0
      have h6 : x * y ≠ 0 := by omega
      have h7 := (Nat.le_log2 h5).mp (Nat.le_refl _)
      have h8 : Nat.log2 (y * (x % y)) + 1 ≤ Nat.log2 (x * y) := (Nat.le_log2 h6).mpr (by rw [Nat.pow_succ]; omega)
      omega
theorem meas_bd {x y : Nat} (hx : x < 2 ^ 2400) (hy : y < 2 ^ 2400) : meas x y < 100000 := by
  unfold meas
  by_cases h : y = 0
  · rw [if_pos h]; omega
  · rw [if_neg h]
    by_cases h2 : x * y = 0
    · rw [h2]; split <;> decide
    · have h3 : x * y < 2 ^ 4800 := by
        rw [show 4800 = 2400 + 2400 from rfl, Nat.pow_add]
        exact Nat.mul_lt_mul'' hx hy
      have h4 := (Nat.log2_lt h2).mpr h3
      split <;> omega
theorem sz_nat {v : Int} {b : Nat} (h : sz v b) : v.natAbs < 2 ^ (16 * b) := by
  rw [Nat.pow_mul]
  have h1 := h.1
  have h2 := h.2
  have h3 : ((65536 ^ b : Nat) : Int) = (65536 : Int) ^ b := Int.natCast_pow 65536 b
  have h4 : (2 ^ 16 : Nat) = 65536 := rfl
  rw [h4]
  omega
theorem sz_of {n b : Nat} (h : n < 2 ^ (16 * b)) : sz (n : Int) b := by
  rw [Nat.pow_mul, show (2 ^ 16 : Nat) = 65536 from rfl] at h
  have h3 : ((65536 ^ b : Nat) : Int) = (65536 : Int) ^ b := Int.natCast_pow 65536 b
  unfold sz
  rw [← h3]
  omega
