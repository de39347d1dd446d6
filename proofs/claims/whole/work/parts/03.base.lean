def ck_F : Nat := 100000
def ck_in {R : Type} (i : Int32) (n : Nat) (k : Option R) : Option R := if (i < 0 ∨ n ≤ i.toNatClampNeg) then none else k
theorem ck_in_s {R : Type} {i : Int32} {n : Nat} {k : Option R} {r : R} (h : ck_in i n k = some r) : vp_in i n ∧ k = some r := by
  unfold ck_in at h
  by_cases hc : (i < 0 ∨ n ≤ i.toNatClampNeg)
  · rw [if_pos hc] at h; cases h
  · rw [if_neg hc] at h; exact ⟨hc, h⟩
def ck_nz {R : Type} (y : Int32) (k : Option R) : Option R := if y = 0 then none else k
theorem ck_nz_s {R : Type} {y : Int32} {k : Option R} {r : R} (h : ck_nz y k = some r) : ¬ y = 0 ∧ k = some r := by
  unfold ck_nz at h
  by_cases hc : y = 0
  · rw [if_pos hc] at h; cases h
  · rw [if_neg hc] at h; exact ⟨hc, h⟩
def ck_nzL {R : Type} (y : Int64) (k : Option R) : Option R := if y = 0 then none else k
theorem ck_nzL_s {R : Type} {y : Int64} {k : Option R} {r : R} (h : ck_nzL y k = some r) : ¬ y = 0 ∧ k = some r := by
  unfold ck_nzL at h
  by_cases hc : y = 0
  · rw [if_pos hc] at h; cases h
  · rw [if_neg hc] at h; exact ⟨hc, h⟩
/-- a check of the writer's own (room, ranges of booleans) -/
def ck_p {R : Type} (c : Prop) [Decidable c] (k : Option R) : Option R := if c then k else none
theorem ck_p_s {R : Type} {c : Prop} [Decidable c] {k : Option R} {r : R} (h : ck_p c k = some r) : c ∧ k = some r := by
  unfold ck_p at h
  by_cases hc : c
  · rw [if_pos hc] at h; exact ⟨hc, h⟩
  · rw [if_neg hc] at h; cases h
def ck_z {R : Type} (x : Int32) (k : Option R) : Option R := if x = 0 ∨ x = 1 then k else none
theorem ck_z_s {R : Type} {x : Int32} {k : Option R} {r : R} (h : ck_z x k = some r) : (narrow .boolean (.int x) = .int x ∧ fits .boolean (.int x) = true) ∧ k = some r := by
  unfold ck_z at h
  by_cases hc : x = 0 ∨ x = 1
  · rw [if_pos hc] at h; exact ⟨by rcases hc with rfl | rfl <;> exact ⟨rfl, rfl⟩, h⟩
  · rw [if_neg hc] at h; cases h
theorem vp_lt {i : Int32} {n : Nat} (h : vp_in i n) : i.toNatClampNeg < n := by
  unfold vp_in at h
  omega
theorem ks1 {a : Nat} (ha : a < 200) : ∀ k ∈ [a], k < 200 := by simp [ha]
theorem ks2 {a b : Nat} (ha : a < 200) (hb : b < 200) : ∀ k ∈ [a, b], k < 200 := by simp [ha, hb]
theorem ks3 {a b c : Nat} (ha : a < 200) (hb : b < 200) (hc : c < 200) : ∀ k ∈ [a, b, c], k < 200 := by simp [ha, hb, hc]
theorem ks4 {a b c d : Nat} (ha : a < 200) (hb : b < 200) (hc : c < 200) (hd : d < 200) : ∀ k ∈ [a, b, c, d], k < 200 := by simp [ha, hb, hc, hd]
theorem nd1 {a : Nat} : [a].Nodup := by simp
theorem nd2 {a b : Nat} (h : a ≠ b) : [a, b].Nodup := by simp [h]
theorem nd3 {a b c : Nat} (h : a ≠ b ∧ a ≠ c ∧ b ≠ c) : [a, b, c].Nodup := by simp [h.1, h.2.1, h.2.2]
theorem nd4 {a b c d : Nat} (h : a ≠ b ∧ a ≠ c ∧ a ≠ d ∧ b ≠ c ∧ b ≠ d ∧ c ≠ d) : [a, b, c, d].Nodup := by simp [h.1, h.2.1, h.2.2.1, h.2.2.2.1, h.2.2.2.2.1, h.2.2.2.2.2]
def ck_or {R : Type} (a b : Option R) : Option R := match a with
  | some r => some r
  | none => b
theorem ck_or_s {R : Type} {a b : Option R} {r : R} (h : ck_or a b = some r) : a = some r ∨ b = some r := by
  cases a with
  | none => exact Or.inr h
  | some x => exact Or.inl h
def ck_nm {α R : Type} (x : α) (k : α → Option R) : Option R := k x
theorem ck_nm_s {α R : Type} {x : α} {k : α → Option R} {r : R} (h : ck_nm x k = some r) {y : α} (e : y = x) : k y = some r := by subst e; exact h
def ck_if {R : Type} (c : Prop) [Decidable c] (a b : Option R) : Option R := if c then a else b
theorem ck_if_t {R : Type} {c : Prop} [Decidable c] {a b : Option R} {r : R} (h : ck_if c a b = some r) (hc : c) : a = some r := by unfold ck_if at h; rwa [if_pos hc] at h
theorem ck_if_f {R : Type} {c : Prop} [Decidable c] {a b : Option R} {r : R} (h : ck_if c a b = some r) (hc : ¬ c) : b = some r := by unfold ck_if at h; rwa [if_neg hc] at h
def ck_jn {K R : Type} (k : K) (f : K → Option R) : Option R := f k
theorem ck_jn_W {K R : Type} {k : K} {f : K → Option R} {r : R} {G : Prop} (h : ck_jn k f = some r) (C : K → Prop) (hk : C k) (hf : ∀ k', C k' → f k' = some r → G) : G := hf k hk h
def ck_b0 {R : Type} (o : Option Unit) (k : Option R) : Option R := match o with
  | none => none
  | some _ => k
theorem ck_b0_s {R : Type} {o : Option Unit} {k : Option R} {r : R} (h : ck_b0 o k = some r) : o = some () ∧ k = some r := by
  cases o with
  | none => cases h
  | some u => exact ⟨rfl, h⟩
/-- the pure reading: o answers, and its answer has Q -/
def ok {R : Type} (o : Option R) (Q : R → Prop) : Prop := ∃ r, o = some r ∧ Q r
theorem ok_some {R : Type} {r : R} {Q : R → Prop} (h : Q r) : ok (some r) Q := ⟨r, rfl, h⟩
theorem ok_mono {R : Type} {o : Option R} {Q Q' : R → Prop} (h : ok o Q) (hq : ∀ r, Q r → Q' r) : ok o Q' := by
  obtain ⟨r, e, q⟩ := h; exact ⟨r, e, hq r q⟩
theorem ok_in {R : Type} {i : Int32} {n : Nat} {k : Option R} {Q : R → Prop} (hi : vp_in i n) (h : ok k Q) : ok (ck_in i n k) Q := by
  unfold ck_in; rw [if_neg hi]; exact h
theorem ok_nz {R : Type} {y : Int32} {k : Option R} {Q : R → Prop} (hy : ¬ y = 0) (h : ok k Q) : ok (ck_nz y k) Q := by
  unfold ck_nz; rw [if_neg hy]; exact h
theorem ok_nzL {R : Type} {y : Int64} {k : Option R} {Q : R → Prop} (hy : ¬ y = 0) (h : ok k Q) : ok (ck_nzL y k) Q := by
  unfold ck_nzL; rw [if_neg hy]; exact h
theorem ok_p {R : Type} {c : Prop} [Decidable c] {k : Option R} {Q : R → Prop} (hc : c) (h : ok k Q) : ok (ck_p c k) Q := by
  unfold ck_p; rw [if_pos hc]; exact h
theorem ok_z {R : Type} {x : Int32} {k : Option R} {Q : R → Prop} (hx : x = 0 ∨ x = 1) (h : ok k Q) : ok (ck_z x k) Q := by
  unfold ck_z; rw [if_pos hx]; exact h
theorem ok_nm {α R : Type} {x : α} {k : α → Option R} {Q : R → Prop} (h : ∀ y, y = x → ok (k y) Q) : ok (ck_nm x k) Q := h x rfl
theorem ok_nmr {α R : Type} {x : α} {k : α → Option R} {Q : R → Prop} (y : α) (e : x = y) (h : ok (k y) Q) : ok (ck_nm x k) Q := by subst e; exact h
theorem ok_if {R : Type} {c : Prop} [Decidable c] {a b : Option R} {Q : R → Prop} (ha : c → ok a Q) (hb : ¬ c → ok b Q) : ok (ck_if c a b) Q := by
  unfold ck_if
  by_cases hc : c
  · rw [if_pos hc]; exact ha hc
  · rw [if_neg hc]; exact hb hc
theorem ok_jn {K R : Type} {k : K} {f : K → Option R} {Q : R → Prop} (C : K → Prop) (hk : C k) (hf : ∀ k', C k' → ok (f k') Q) : ok (ck_jn k f) Q := hf k hk
theorem ok_b0 {R : Type} {o : Option Unit} {k : Option R} {Q : R → Prop} {Q1 : Unit → Prop} (ho : ok o Q1) (h : ok k Q) : ok (ck_b0 o k) Q := by
  obtain ⟨u, e, _⟩ := ho; subst e; exact h
def ck_b1 {A1 R : Type} (o : Option (A1)) (k : A1 → Option R) : Option R := match o with
  | none => none
  | some a1 => k a1
theorem ck_b1_s {A1 R : Type} {o : Option (A1)} {k : A1 → Option R} {r : R} (h : ck_b1 o k = some r) : ∃ (a1 : A1), o = some a1 ∧ k a1 = some r := by
  cases o with
  | none => cases h
  | some u => obtain ⟨a1, rfl⟩ := (⟨u, rfl⟩ : ∃ z, z = u); exact ⟨a1, rfl, h⟩
theorem ok_b1 {A1 R : Type} {o : Option (A1)} {k : A1 → Option R} {Q : R → Prop} {Q1 : A1 → Prop} (ho : ok o Q1) (h : ∀ (a1 : A1), Q1 a1 → ok (k a1) Q) : ok (ck_b1 o k) Q := by
  obtain ⟨u, e, q⟩ := ho; subst e
  exact h u q
def ck_b2 {A1 A2 R : Type} (o : Option (A1 × A2)) (k : A1 → A2 → Option R) : Option R := match o with
  | none => none
  | some (a1, a2) => k a1 a2
theorem ck_b2_s {A1 A2 R : Type} {o : Option (A1 × A2)} {k : A1 → A2 → Option R} {r : R} (h : ck_b2 o k = some r) : ∃ (a1 : A1) (a2 : A2), o = some (a1, a2) ∧ k a1 a2 = some r := by
  cases o with
  | none => cases h
  | some u => obtain ⟨a1, a2⟩ := u; exact ⟨a1, a2, rfl, h⟩
theorem ok_b2 {A1 A2 R : Type} {o : Option (A1 × A2)} {k : A1 → A2 → Option R} {Q : R → Prop} {Q1 : A1 × A2 → Prop} (ho : ok o Q1) (h : ∀ (a1 : A1) (a2 : A2), Q1 (a1, a2) → ok (k a1 a2) Q) : ok (ck_b2 o k) Q := by
  obtain ⟨u, e, q⟩ := ho; subst e
  exact h u.1 u.2 q
def ck_b3 {A1 A2 A3 R : Type} (o : Option (A1 × A2 × A3)) (k : A1 → A2 → A3 → Option R) : Option R := match o with
  | none => none
  | some (a1, a2, a3) => k a1 a2 a3
theorem ck_b3_s {A1 A2 A3 R : Type} {o : Option (A1 × A2 × A3)} {k : A1 → A2 → A3 → Option R} {r : R} (h : ck_b3 o k = some r) : ∃ (a1 : A1) (a2 : A2) (a3 : A3), o = some (a1, a2, a3) ∧ k a1 a2 a3 = some r := by
  cases o with
  | none => cases h
  | some u => obtain ⟨a1, a2, a3⟩ := u; exact ⟨a1, a2, a3, rfl, h⟩
theorem ok_b3 {A1 A2 A3 R : Type} {o : Option (A1 × A2 × A3)} {k : A1 → A2 → A3 → Option R} {Q : R → Prop} {Q1 : A1 × A2 × A3 → Prop} (ho : ok o Q1) (h : ∀ (a1 : A1) (a2 : A2) (a3 : A3), Q1 (a1, a2, a3) → ok (k a1 a2 a3) Q) : ok (ck_b3 o k) Q := by
  obtain ⟨u, e, q⟩ := ho; subst e
  exact h u.1 u.2.1 u.2.2 q
def ck_b4 {A1 A2 A3 A4 R : Type} (o : Option (A1 × A2 × A3 × A4)) (k : A1 → A2 → A3 → A4 → Option R) : Option R := match o with
  | none => none
  | some (a1, a2, a3, a4) => k a1 a2 a3 a4
theorem ck_b4_s {A1 A2 A3 A4 R : Type} {o : Option (A1 × A2 × A3 × A4)} {k : A1 → A2 → A3 → A4 → Option R} {r : R} (h : ck_b4 o k = some r) : ∃ (a1 : A1) (a2 : A2) (a3 : A3) (a4 : A4), o = some (a1, a2, a3, a4) ∧ k a1 a2 a3 a4 = some r := by
  cases o with
  | none => cases h
  | some u => obtain ⟨a1, a2, a3, a4⟩ := u; exact ⟨a1, a2, a3, a4, rfl, h⟩
theorem ok_b4 {A1 A2 A3 A4 R : Type} {o : Option (A1 × A2 × A3 × A4)} {k : A1 → A2 → A3 → A4 → Option R} {Q : R → Prop} {Q1 : A1 × A2 × A3 × A4 → Prop} (ho : ok o Q1) (h : ∀ (a1 : A1) (a2 : A2) (a3 : A3) (a4 : A4), Q1 (a1, a2, a3, a4) → ok (k a1 a2 a3 a4) Q) : ok (ck_b4 o k) Q := by
  obtain ⟨u, e, q⟩ := ho; subst e
  exact h u.1 u.2.1 u.2.2.1 u.2.2.2 q
def ck_b5 {A1 A2 A3 A4 A5 R : Type} (o : Option (A1 × A2 × A3 × A4 × A5)) (k : A1 → A2 → A3 → A4 → A5 → Option R) : Option R := match o with
  | none => none
  | some (a1, a2, a3, a4, a5) => k a1 a2 a3 a4 a5
theorem ck_b5_s {A1 A2 A3 A4 A5 R : Type} {o : Option (A1 × A2 × A3 × A4 × A5)} {k : A1 → A2 → A3 → A4 → A5 → Option R} {r : R} (h : ck_b5 o k = some r) : ∃ (a1 : A1) (a2 : A2) (a3 : A3) (a4 : A4) (a5 : A5), o = some (a1, a2, a3, a4, a5) ∧ k a1 a2 a3 a4 a5 = some r := by
  cases o with
  | none => cases h
  | some u => obtain ⟨a1, a2, a3, a4, a5⟩ := u; exact ⟨a1, a2, a3, a4, a5, rfl, h⟩
theorem ok_b5 {A1 A2 A3 A4 A5 R : Type} {o : Option (A1 × A2 × A3 × A4 × A5)} {k : A1 → A2 → A3 → A4 → A5 → Option R} {Q : R → Prop} {Q1 : A1 × A2 × A3 × A4 × A5 → Prop} (ho : ok o Q1) (h : ∀ (a1 : A1) (a2 : A2) (a3 : A3) (a4 : A4) (a5 : A5), Q1 (a1, a2, a3, a4, a5) → ok (k a1 a2 a3 a4 a5) Q) : ok (ck_b5 o k) Q := by
  obtain ⟨u, e, q⟩ := ho; subst e
  exact h u.1 u.2.1 u.2.2.1 u.2.2.2.1 u.2.2.2.2 q
def ck_b6 {A1 A2 A3 A4 A5 A6 R : Type} (o : Option (A1 × A2 × A3 × A4 × A5 × A6)) (k : A1 → A2 → A3 → A4 → A5 → A6 → Option R) : Option R := match o with
  | none => none
  | some (a1, a2, a3, a4, a5, a6) => k a1 a2 a3 a4 a5 a6
theorem ck_b6_s {A1 A2 A3 A4 A5 A6 R : Type} {o : Option (A1 × A2 × A3 × A4 × A5 × A6)} {k : A1 → A2 → A3 → A4 → A5 → A6 → Option R} {r : R} (h : ck_b6 o k = some r) : ∃ (a1 : A1) (a2 : A2) (a3 : A3) (a4 : A4) (a5 : A5) (a6 : A6), o = some (a1, a2, a3, a4, a5, a6) ∧ k a1 a2 a3 a4 a5 a6 = some r := by
  cases o with
  | none => cases h
  | some u => obtain ⟨a1, a2, a3, a4, a5, a6⟩ := u; exact ⟨a1, a2, a3, a4, a5, a6, rfl, h⟩
theorem ok_b6 {A1 A2 A3 A4 A5 A6 R : Type} {o : Option (A1 × A2 × A3 × A4 × A5 × A6)} {k : A1 → A2 → A3 → A4 → A5 → A6 → Option R} {Q : R → Prop} {Q1 : A1 × A2 × A3 × A4 × A5 × A6 → Prop} (ho : ok o Q1) (h : ∀ (a1 : A1) (a2 : A2) (a3 : A3) (a4 : A4) (a5 : A5) (a6 : A6), Q1 (a1, a2, a3, a4, a5, a6) → ok (k a1 a2 a3 a4 a5 a6) Q) : ok (ck_b6 o k) Q := by
  obtain ⟨u, e, q⟩ := ho; subst e
  exact h u.1 u.2.1 u.2.2.1 u.2.2.2.1 u.2.2.2.2.1 u.2.2.2.2.2 q
def ck_b7 {A1 A2 A3 A4 A5 A6 A7 R : Type} (o : Option (A1 × A2 × A3 × A4 × A5 × A6 × A7)) (k : A1 → A2 → A3 → A4 → A5 → A6 → A7 → Option R) : Option R := match o with
  | none => none
  | some (a1, a2, a3, a4, a5, a6, a7) => k a1 a2 a3 a4 a5 a6 a7
theorem ck_b7_s {A1 A2 A3 A4 A5 A6 A7 R : Type} {o : Option (A1 × A2 × A3 × A4 × A5 × A6 × A7)} {k : A1 → A2 → A3 → A4 → A5 → A6 → A7 → Option R} {r : R} (h : ck_b7 o k = some r) : ∃ (a1 : A1) (a2 : A2) (a3 : A3) (a4 : A4) (a5 : A5) (a6 : A6) (a7 : A7), o = some (a1, a2, a3, a4, a5, a6, a7) ∧ k a1 a2 a3 a4 a5 a6 a7 = some r := by
  cases o with
  | none => cases h
  | some u => obtain ⟨a1, a2, a3, a4, a5, a6, a7⟩ := u; exact ⟨a1, a2, a3, a4, a5, a6, a7, rfl, h⟩
theorem ok_b7 {A1 A2 A3 A4 A5 A6 A7 R : Type} {o : Option (A1 × A2 × A3 × A4 × A5 × A6 × A7)} {k : A1 → A2 → A3 → A4 → A5 → A6 → A7 → Option R} {Q : R → Prop} {Q1 : A1 × A2 × A3 × A4 × A5 × A6 × A7 → Prop} (ho : ok o Q1) (h : ∀ (a1 : A1) (a2 : A2) (a3 : A3) (a4 : A4) (a5 : A5) (a6 : A6) (a7 : A7), Q1 (a1, a2, a3, a4, a5, a6, a7) → ok (k a1 a2 a3 a4 a5 a6 a7) Q) : ok (ck_b7 o k) Q := by
  obtain ⟨u, e, q⟩ := ho; subst e
  exact h u.1 u.2.1 u.2.2.1 u.2.2.2.1 u.2.2.2.2.1 u.2.2.2.2.2.1 u.2.2.2.2.2.2 q
def ck_b8 {A1 A2 A3 A4 A5 A6 A7 A8 R : Type} (o : Option (A1 × A2 × A3 × A4 × A5 × A6 × A7 × A8)) (k : A1 → A2 → A3 → A4 → A5 → A6 → A7 → A8 → Option R) : Option R := match o with
  | none => none
  | some (a1, a2, a3, a4, a5, a6, a7, a8) => k a1 a2 a3 a4 a5 a6 a7 a8
theorem ck_b8_s {A1 A2 A3 A4 A5 A6 A7 A8 R : Type} {o : Option (A1 × A2 × A3 × A4 × A5 × A6 × A7 × A8)} {k : A1 → A2 → A3 → A4 → A5 → A6 → A7 → A8 → Option R} {r : R} (h : ck_b8 o k = some r) : ∃ (a1 : A1) (a2 : A2) (a3 : A3) (a4 : A4) (a5 : A5) (a6 : A6) (a7 : A7) (a8 : A8), o = some (a1, a2, a3, a4, a5, a6, a7, a8) ∧ k a1 a2 a3 a4 a5 a6 a7 a8 = some r := by
  cases o with
  | none => cases h
  | some u => obtain ⟨a1, a2, a3, a4, a5, a6, a7, a8⟩ := u; exact ⟨a1, a2, a3, a4, a5, a6, a7, a8, rfl, h⟩
theorem ok_b8 {A1 A2 A3 A4 A5 A6 A7 A8 R : Type} {o : Option (A1 × A2 × A3 × A4 × A5 × A6 × A7 × A8)} {k : A1 → A2 → A3 → A4 → A5 → A6 → A7 → A8 → Option R} {Q : R → Prop} {Q1 : A1 × A2 × A3 × A4 × A5 × A6 × A7 × A8 → Prop} (ho : ok o Q1) (h : ∀ (a1 : A1) (a2 : A2) (a3 : A3) (a4 : A4) (a5 : A5) (a6 : A6) (a7 : A7) (a8 : A8), Q1 (a1, a2, a3, a4, a5, a6, a7, a8) → ok (k a1 a2 a3 a4 a5 a6 a7 a8) Q) : ok (ck_b8 o k) Q := by
  obtain ⟨u, e, q⟩ := ho; subst e
  exact h u.1 u.2.1 u.2.2.1 u.2.2.2.1 u.2.2.2.2.1 u.2.2.2.2.2.1 u.2.2.2.2.2.2.1 u.2.2.2.2.2.2.2 q
def lo1 {A1 R : Type} (F : (A1 → Option R) → A1 → Option R) : Nat → A1 → Option R
  | 0 => fun _ => none
  | n + 1 => F (lo1 F n)
theorem lo1_W {A1 R : Type} {F : (A1 → Option R) → A1 → Option R} {r : R} (P : A1 → Prop) (hs : ∀ (k : A1 → Option R) (a1 : A1), (∀ (b1 : A1), k b1 = some r → P b1) → F k a1 = some r → P a1) : ∀ (n : Nat) (a1 : A1), lo1 F n a1 = some r → P a1 := by
  intro n
  induction n with
  | zero => intro a1 h; cases h
  | succ n ih => intro a1 h; exact hs (lo1 F n) a1 ih h
theorem lo1_ok {A1 R : Type} {F : (A1 → Option R) → A1 → Option R} {Q : R → Prop} (I : A1 → Prop) (μ : A1 → Nat) (hs : ∀ (k : A1 → Option R) (a1 : A1), I a1 → (∀ (b1 : A1), I b1 → μ b1 < μ a1 → ok (k b1) Q) → ok (F k a1) Q) : ∀ (n : Nat) (a1 : A1), I a1 → μ a1 < n → ok (lo1 F n a1) Q := by
  intro n
  induction n with
  | zero => intro a1 h1 h2; exact absurd h2 (Nat.not_lt_zero _)
  | succ n ih => intro a1 h1 h2; exact hs (lo1 F n) a1 h1 (fun b1 h3 h4 => ih b1 h3 (by omega))
/-- a loop that counts: from i on, with invariant I -/
theorem lo1_F {A1 R : Type} {F : (A1 → Option R) → A1 → Option R} {Q : R → Prop} (I : A1 → Prop) (μ : A1 → Nat) (hs : ∀ (k : A1 → Option R) (a1 : A1), I a1 → (∀ (b1 : A1), I b1 → μ b1 < μ a1 → ok (k b1) Q) → ok (F k a1) Q) {a1 : A1} (h : I a1) (hm : μ a1 < 100000) : ok (lo1 F ck_F a1) Q := lo1_ok I μ hs ck_F a1 h hm
def lo2 {A1 A2 R : Type} (F : (A1 → A2 → Option R) → A1 → A2 → Option R) : Nat → A1 → A2 → Option R
  | 0 => fun _ _ => none
  | n + 1 => F (lo2 F n)
theorem lo2_W {A1 A2 R : Type} {F : (A1 → A2 → Option R) → A1 → A2 → Option R} {r : R} (P : A1 → A2 → Prop) (hs : ∀ (k : A1 → A2 → Option R) (a1 : A1) (a2 : A2), (∀ (b1 : A1) (b2 : A2), k b1 b2 = some r → P b1 b2) → F k a1 a2 = some r → P a1 a2) : ∀ (n : Nat) (a1 : A1) (a2 : A2), lo2 F n a1 a2 = some r → P a1 a2 := by
  intro n
  induction n with
  | zero => intro a1 a2 h; cases h
  | succ n ih => intro a1 a2 h; exact hs (lo2 F n) a1 a2 ih h
theorem lo2_ok {A1 A2 R : Type} {F : (A1 → A2 → Option R) → A1 → A2 → Option R} {Q : R → Prop} (I : A1 → A2 → Prop) (μ : A1 → A2 → Nat) (hs : ∀ (k : A1 → A2 → Option R) (a1 : A1) (a2 : A2), I a1 a2 → (∀ (b1 : A1) (b2 : A2), I b1 b2 → μ b1 b2 < μ a1 a2 → ok (k b1 b2) Q) → ok (F k a1 a2) Q) : ∀ (n : Nat) (a1 : A1) (a2 : A2), I a1 a2 → μ a1 a2 < n → ok (lo2 F n a1 a2) Q := by
  intro n
  induction n with
  | zero => intro a1 a2 h1 h2; exact absurd h2 (Nat.not_lt_zero _)
  | succ n ih => intro a1 a2 h1 h2; exact hs (lo2 F n) a1 a2 h1 (fun b1 b2 h3 h4 => ih b1 b2 h3 (by omega))
/-- a loop that counts: from i on, with invariant I -/
theorem lo2_F {A1 A2 R : Type} {F : (A1 → A2 → Option R) → A1 → A2 → Option R} {Q : R → Prop} (I : A1 → A2 → Prop) (μ : A1 → A2 → Nat) (hs : ∀ (k : A1 → A2 → Option R) (a1 : A1) (a2 : A2), I a1 a2 → (∀ (b1 : A1) (b2 : A2), I b1 b2 → μ b1 b2 < μ a1 a2 → ok (k b1 b2) Q) → ok (F k a1 a2) Q) {a1 : A1} {a2 : A2} (h : I a1 a2) (hm : μ a1 a2 < 100000) : ok (lo2 F ck_F a1 a2) Q := lo2_ok I μ hs ck_F a1 a2 h hm
def lo3 {A1 A2 A3 R : Type} (F : (A1 → A2 → A3 → Option R) → A1 → A2 → A3 → Option R) : Nat → A1 → A2 → A3 → Option R
  | 0 => fun _ _ _ => none
  | n + 1 => F (lo3 F n)
theorem lo3_W {A1 A2 A3 R : Type} {F : (A1 → A2 → A3 → Option R) → A1 → A2 → A3 → Option R} {r : R} (P : A1 → A2 → A3 → Prop) (hs : ∀ (k : A1 → A2 → A3 → Option R) (a1 : A1) (a2 : A2) (a3 : A3), (∀ (b1 : A1) (b2 : A2) (b3 : A3), k b1 b2 b3 = some r → P b1 b2 b3) → F k a1 a2 a3 = some r → P a1 a2 a3) : ∀ (n : Nat) (a1 : A1) (a2 : A2) (a3 : A3), lo3 F n a1 a2 a3 = some r → P a1 a2 a3 := by
  intro n
  induction n with
  | zero => intro a1 a2 a3 h; cases h
  | succ n ih => intro a1 a2 a3 h; exact hs (lo3 F n) a1 a2 a3 ih h
theorem lo3_ok {A1 A2 A3 R : Type} {F : (A1 → A2 → A3 → Option R) → A1 → A2 → A3 → Option R} {Q : R → Prop} (I : A1 → A2 → A3 → Prop) (μ : A1 → A2 → A3 → Nat) (hs : ∀ (k : A1 → A2 → A3 → Option R) (a1 : A1) (a2 : A2) (a3 : A3), I a1 a2 a3 → (∀ (b1 : A1) (b2 : A2) (b3 : A3), I b1 b2 b3 → μ b1 b2 b3 < μ a1 a2 a3 → ok (k b1 b2 b3) Q) → ok (F k a1 a2 a3) Q) : ∀ (n : Nat) (a1 : A1) (a2 : A2) (a3 : A3), I a1 a2 a3 → μ a1 a2 a3 < n → ok (lo3 F n a1 a2 a3) Q := by
  intro n
  induction n with
  | zero => intro a1 a2 a3 h1 h2; exact absurd h2 (Nat.not_lt_zero _)
  | succ n ih => intro a1 a2 a3 h1 h2; exact hs (lo3 F n) a1 a2 a3 h1 (fun b1 b2 b3 h3 h4 => ih b1 b2 b3 h3 (by omega))
/-- a loop that counts: from i on, with invariant I -/
theorem lo3_F {A1 A2 A3 R : Type} {F : (A1 → A2 → A3 → Option R) → A1 → A2 → A3 → Option R} {Q : R → Prop} (I : A1 → A2 → A3 → Prop) (μ : A1 → A2 → A3 → Nat) (hs : ∀ (k : A1 → A2 → A3 → Option R) (a1 : A1) (a2 : A2) (a3 : A3), I a1 a2 a3 → (∀ (b1 : A1) (b2 : A2) (b3 : A3), I b1 b2 b3 → μ b1 b2 b3 < μ a1 a2 a3 → ok (k b1 b2 b3) Q) → ok (F k a1 a2 a3) Q) {a1 : A1} {a2 : A2} {a3 : A3} (h : I a1 a2 a3) (hm : μ a1 a2 a3 < 100000) : ok (lo3 F ck_F a1 a2 a3) Q := lo3_ok I μ hs ck_F a1 a2 a3 h hm
def lo4 {A1 A2 A3 A4 R : Type} (F : (A1 → A2 → A3 → A4 → Option R) → A1 → A2 → A3 → A4 → Option R) : Nat → A1 → A2 → A3 → A4 → Option R
  | 0 => fun _ _ _ _ => none
  | n + 1 => F (lo4 F n)
theorem lo4_W {A1 A2 A3 A4 R : Type} {F : (A1 → A2 → A3 → A4 → Option R) → A1 → A2 → A3 → A4 → Option R} {r : R} (P : A1 → A2 → A3 → A4 → Prop) (hs : ∀ (k : A1 → A2 → A3 → A4 → Option R) (a1 : A1) (a2 : A2) (a3 : A3) (a4 : A4), (∀ (b1 : A1) (b2 : A2) (b3 : A3) (b4 : A4), k b1 b2 b3 b4 = some r → P b1 b2 b3 b4) → F k a1 a2 a3 a4 = some r → P a1 a2 a3 a4) : ∀ (n : Nat) (a1 : A1) (a2 : A2) (a3 : A3) (a4 : A4), lo4 F n a1 a2 a3 a4 = some r → P a1 a2 a3 a4 := by
  intro n
  induction n with
  | zero => intro a1 a2 a3 a4 h; cases h
  | succ n ih => intro a1 a2 a3 a4 h; exact hs (lo4 F n) a1 a2 a3 a4 ih h
theorem lo4_ok {A1 A2 A3 A4 R : Type} {F : (A1 → A2 → A3 → A4 → Option R) → A1 → A2 → A3 → A4 → Option R} {Q : R → Prop} (I : A1 → A2 → A3 → A4 → Prop) (μ : A1 → A2 → A3 → A4 → Nat) (hs : ∀ (k : A1 → A2 → A3 → A4 → Option R) (a1 : A1) (a2 : A2) (a3 : A3) (a4 : A4), I a1 a2 a3 a4 → (∀ (b1 : A1) (b2 : A2) (b3 : A3) (b4 : A4), I b1 b2 b3 b4 → μ b1 b2 b3 b4 < μ a1 a2 a3 a4 → ok (k b1 b2 b3 b4) Q) → ok (F k a1 a2 a3 a4) Q) : ∀ (n : Nat) (a1 : A1) (a2 : A2) (a3 : A3) (a4 : A4), I a1 a2 a3 a4 → μ a1 a2 a3 a4 < n → ok (lo4 F n a1 a2 a3 a4) Q := by
  intro n
  induction n with
  | zero => intro a1 a2 a3 a4 h1 h2; exact absurd h2 (Nat.not_lt_zero _)
  | succ n ih => intro a1 a2 a3 a4 h1 h2; exact hs (lo4 F n) a1 a2 a3 a4 h1 (fun b1 b2 b3 b4 h3 h4 => ih b1 b2 b3 b4 h3 (by omega))
/-- a loop that counts: from i on, with invariant I -/
theorem lo4_F {A1 A2 A3 A4 R : Type} {F : (A1 → A2 → A3 → A4 → Option R) → A1 → A2 → A3 → A4 → Option R} {Q : R → Prop} (I : A1 → A2 → A3 → A4 → Prop) (μ : A1 → A2 → A3 → A4 → Nat) (hs : ∀ (k : A1 → A2 → A3 → A4 → Option R) (a1 : A1) (a2 : A2) (a3 : A3) (a4 : A4), I a1 a2 a3 a4 → (∀ (b1 : A1) (b2 : A2) (b3 : A3) (b4 : A4), I b1 b2 b3 b4 → μ b1 b2 b3 b4 < μ a1 a2 a3 a4 → ok (k b1 b2 b3 b4) Q) → ok (F k a1 a2 a3 a4) Q) {a1 : A1} {a2 : A2} {a3 : A3} {a4 : A4} (h : I a1 a2 a3 a4) (hm : μ a1 a2 a3 a4 < 100000) : ok (lo4 F ck_F a1 a2 a3 a4) Q := lo4_ok I μ hs ck_F a1 a2 a3 a4 h hm
def lo5 {A1 A2 A3 A4 A5 R : Type} (F : (A1 → A2 → A3 → A4 → A5 → Option R) → A1 → A2 → A3 → A4 → A5 → Option R) : Nat → A1 → A2 → A3 → A4 → A5 → Option R
  | 0 => fun _ _ _ _ _ => none
  | n + 1 => F (lo5 F n)
theorem lo5_W {A1 A2 A3 A4 A5 R : Type} {F : (A1 → A2 → A3 → A4 → A5 → Option R) → A1 → A2 → A3 → A4 → A5 → Option R} {r : R} (P : A1 → A2 → A3 → A4 → A5 → Prop) (hs : ∀ (k : A1 → A2 → A3 → A4 → A5 → Option R) (a1 : A1) (a2 : A2) (a3 : A3) (a4 : A4) (a5 : A5), (∀ (b1 : A1) (b2 : A2) (b3 : A3) (b4 : A4) (b5 : A5), k b1 b2 b3 b4 b5 = some r → P b1 b2 b3 b4 b5) → F k a1 a2 a3 a4 a5 = some r → P a1 a2 a3 a4 a5) : ∀ (n : Nat) (a1 : A1) (a2 : A2) (a3 : A3) (a4 : A4) (a5 : A5), lo5 F n a1 a2 a3 a4 a5 = some r → P a1 a2 a3 a4 a5 := by
  intro n
  induction n with
  | zero => intro a1 a2 a3 a4 a5 h; cases h
  | succ n ih => intro a1 a2 a3 a4 a5 h; exact hs (lo5 F n) a1 a2 a3 a4 a5 ih h
theorem lo5_ok {A1 A2 A3 A4 A5 R : Type} {F : (A1 → A2 → A3 → A4 → A5 → Option R) → A1 → A2 → A3 → A4 → A5 → Option R} {Q : R → Prop} (I : A1 → A2 → A3 → A4 → A5 → Prop) (μ : A1 → A2 → A3 → A4 → A5 → Nat) (hs : ∀ (k : A1 → A2 → A3 → A4 → A5 → Option R) (a1 : A1) (a2 : A2) (a3 : A3) (a4 : A4) (a5 : A5), I a1 a2 a3 a4 a5 → (∀ (b1 : A1) (b2 : A2) (b3 : A3) (b4 : A4) (b5 : A5), I b1 b2 b3 b4 b5 → μ b1 b2 b3 b4 b5 < μ a1 a2 a3 a4 a5 → ok (k b1 b2 b3 b4 b5) Q) → ok (F k a1 a2 a3 a4 a5) Q) : ∀ (n : Nat) (a1 : A1) (a2 : A2) (a3 : A3) (a4 : A4) (a5 : A5), I a1 a2 a3 a4 a5 → μ a1 a2 a3 a4 a5 < n → ok (lo5 F n a1 a2 a3 a4 a5) Q := by
  intro n
  induction n with
  | zero => intro a1 a2 a3 a4 a5 h1 h2; exact absurd h2 (Nat.not_lt_zero _)
  | succ n ih => intro a1 a2 a3 a4 a5 h1 h2; exact hs (lo5 F n) a1 a2 a3 a4 a5 h1 (fun b1 b2 b3 b4 b5 h3 h4 => ih b1 b2 b3 b4 b5 h3 (by omega))
/-- a loop that counts: from i on, with invariant I -/
theorem lo5_F {A1 A2 A3 A4 A5 R : Type} {F : (A1 → A2 → A3 → A4 → A5 → Option R) → A1 → A2 → A3 → A4 → A5 → Option R} {Q : R → Prop} (I : A1 → A2 → A3 → A4 → A5 → Prop) (μ : A1 → A2 → A3 → A4 → A5 → Nat) (hs : ∀ (k : A1 → A2 → A3 → A4 → A5 → Option R) (a1 : A1) (a2 : A2) (a3 : A3) (a4 : A4) (a5 : A5), I a1 a2 a3 a4 a5 → (∀ (b1 : A1) (b2 : A2) (b3 : A3) (b4 : A4) (b5 : A5), I b1 b2 b3 b4 b5 → μ b1 b2 b3 b4 b5 < μ a1 a2 a3 a4 a5 → ok (k b1 b2 b3 b4 b5) Q) → ok (F k a1 a2 a3 a4 a5) Q) {a1 : A1} {a2 : A2} {a3 : A3} {a4 : A4} {a5 : A5} (h : I a1 a2 a3 a4 a5) (hm : μ a1 a2 a3 a4 a5 < 100000) : ok (lo5 F ck_F a1 a2 a3 a4 a5) Q := lo5_ok I μ hs ck_F a1 a2 a3 a4 a5 h hm
def lo6 {A1 A2 A3 A4 A5 A6 R : Type} (F : (A1 → A2 → A3 → A4 → A5 → A6 → Option R) → A1 → A2 → A3 → A4 → A5 → A6 → Option R) : Nat → A1 → A2 → A3 → A4 → A5 → A6 → Option R
  | 0 => fun _ _ _ _ _ _ => none
  | n + 1 => F (lo6 F n)
theorem lo6_W {A1 A2 A3 A4 A5 A6 R : Type} {F : (A1 → A2 → A3 → A4 → A5 → A6 → Option R) → A1 → A2 → A3 → A4 → A5 → A6 → Option R} {r : R} (P : A1 → A2 → A3 → A4 → A5 → A6 → Prop) (hs : ∀ (k : A1 → A2 → A3 → A4 → A5 → A6 → Option R) (a1 : A1) (a2 : A2) (a3 : A3) (a4 : A4) (a5 : A5) (a6 : A6), (∀ (b1 : A1) (b2 : A2) (b3 : A3) (b4 : A4) (b5 : A5) (b6 : A6), k b1 b2 b3 b4 b5 b6 = some r → P b1 b2 b3 b4 b5 b6) → F k a1 a2 a3 a4 a5 a6 = some r → P a1 a2 a3 a4 a5 a6) : ∀ (n : Nat) (a1 : A1) (a2 : A2) (a3 : A3) (a4 : A4) (a5 : A5) (a6 : A6), lo6 F n a1 a2 a3 a4 a5 a6 = some r → P a1 a2 a3 a4 a5 a6 := by
  intro n
  induction n with
  | zero => intro a1 a2 a3 a4 a5 a6 h; cases h
  | succ n ih => intro a1 a2 a3 a4 a5 a6 h; exact hs (lo6 F n) a1 a2 a3 a4 a5 a6 ih h
theorem lo6_ok {A1 A2 A3 A4 A5 A6 R : Type} {F : (A1 → A2 → A3 → A4 → A5 → A6 → Option R) → A1 → A2 → A3 → A4 → A5 → A6 → Option R} {Q : R → Prop} (I : A1 → A2 → A3 → A4 → A5 → A6 → Prop) (μ : A1 → A2 → A3 → A4 → A5 → A6 → Nat) (hs : ∀ (k : A1 → A2 → A3 → A4 → A5 → A6 → Option R) (a1 : A1) (a2 : A2) (a3 : A3) (a4 : A4) (a5 : A5) (a6 : A6), I a1 a2 a3 a4 a5 a6 → (∀ (b1 : A1) (b2 : A2) (b3 : A3) (b4 : A4) (b5 : A5) (b6 : A6), I b1 b2 b3 b4 b5 b6 → μ b1 b2 b3 b4 b5 b6 < μ a1 a2 a3 a4 a5 a6 → ok (k b1 b2 b3 b4 b5 b6) Q) → ok (F k a1 a2 a3 a4 a5 a6) Q) : ∀ (n : Nat) (a1 : A1) (a2 : A2) (a3 : A3) (a4 : A4) (a5 : A5) (a6 : A6), I a1 a2 a3 a4 a5 a6 → μ a1 a2 a3 a4 a5 a6 < n → ok (lo6 F n a1 a2 a3 a4 a5 a6) Q := by
  intro n
  induction n with
  | zero => intro a1 a2 a3 a4 a5 a6 h1 h2; exact absurd h2 (Nat.not_lt_zero _)
  | succ n ih => intro a1 a2 a3 a4 a5 a6 h1 h2; exact hs (lo6 F n) a1 a2 a3 a4 a5 a6 h1 (fun b1 b2 b3 b4 b5 b6 h3 h4 => ih b1 b2 b3 b4 b5 b6 h3 (by omega))
/-- a loop that counts: from i on, with invariant I -/
theorem lo6_F {A1 A2 A3 A4 A5 A6 R : Type} {F : (A1 → A2 → A3 → A4 → A5 → A6 → Option R) → A1 → A2 → A3 → A4 → A5 → A6 → Option R} {Q : R → Prop} (I : A1 → A2 → A3 → A4 → A5 → A6 → Prop) (μ : A1 → A2 → A3 → A4 → A5 → A6 → Nat) (hs : ∀ (k : A1 → A2 → A3 → A4 → A5 → A6 → Option R) (a1 : A1) (a2 : A2) (a3 : A3) (a4 : A4) (a5 : A5) (a6 : A6), I a1 a2 a3 a4 a5 a6 → (∀ (b1 : A1) (b2 : A2) (b3 : A3) (b4 : A4) (b5 : A5) (b6 : A6), I b1 b2 b3 b4 b5 b6 → μ b1 b2 b3 b4 b5 b6 < μ a1 a2 a3 a4 a5 a6 → ok (k b1 b2 b3 b4 b5 b6) Q) → ok (F k a1 a2 a3 a4 a5 a6) Q) {a1 : A1} {a2 : A2} {a3 : A3} {a4 : A4} {a5 : A5} {a6 : A6} (h : I a1 a2 a3 a4 a5 a6) (hm : μ a1 a2 a3 a4 a5 a6 < 100000) : ok (lo6 F ck_F a1 a2 a3 a4 a5 a6) Q := lo6_ok I μ hs ck_F a1 a2 a3 a4 a5 a6 h hm
def lo7 {A1 A2 A3 A4 A5 A6 A7 R : Type} (F : (A1 → A2 → A3 → A4 → A5 → A6 → A7 → Option R) → A1 → A2 → A3 → A4 → A5 → A6 → A7 → Option R) : Nat → A1 → A2 → A3 → A4 → A5 → A6 → A7 → Option R
  | 0 => fun _ _ _ _ _ _ _ => none
  | n + 1 => F (lo7 F n)
theorem lo7_W {A1 A2 A3 A4 A5 A6 A7 R : Type} {F : (A1 → A2 → A3 → A4 → A5 → A6 → A7 → Option R) → A1 → A2 → A3 → A4 → A5 → A6 → A7 → Option R} {r : R} (P : A1 → A2 → A3 → A4 → A5 → A6 → A7 → Prop) (hs : ∀ (k : A1 → A2 → A3 → A4 → A5 → A6 → A7 → Option R) (a1 : A1) (a2 : A2) (a3 : A3) (a4 : A4) (a5 : A5) (a6 : A6) (a7 : A7), (∀ (b1 : A1) (b2 : A2) (b3 : A3) (b4 : A4) (b5 : A5) (b6 : A6) (b7 : A7), k b1 b2 b3 b4 b5 b6 b7 = some r → P b1 b2 b3 b4 b5 b6 b7) → F k a1 a2 a3 a4 a5 a6 a7 = some r → P a1 a2 a3 a4 a5 a6 a7) : ∀ (n : Nat) (a1 : A1) (a2 : A2) (a3 : A3) (a4 : A4) (a5 : A5) (a6 : A6) (a7 : A7), lo7 F n a1 a2 a3 a4 a5 a6 a7 = some r → P a1 a2 a3 a4 a5 a6 a7 := by
  intro n
  induction n with
  | zero => intro a1 a2 a3 a4 a5 a6 a7 h; cases h
  | succ n ih => intro a1 a2 a3 a4 a5 a6 a7 h; exact hs (lo7 F n) a1 a2 a3 a4 a5 a6 a7 ih h
theorem lo7_ok {A1 A2 A3 A4 A5 A6 A7 R : Type} {F : (A1 → A2 → A3 → A4 → A5 → A6 → A7 → Option R) → A1 → A2 → A3 → A4 → A5 → A6 → A7 → Option R} {Q : R → Prop} (I : A1 → A2 → A3 → A4 → A5 → A6 → A7 → Prop) (μ : A1 → A2 → A3 → A4 → A5 → A6 → A7 → Nat) (hs : ∀ (k : A1 → A2 → A3 → A4 → A5 → A6 → A7 → Option R) (a1 : A1) (a2 : A2) (a3 : A3) (a4 : A4) (a5 : A5) (a6 : A6) (a7 : A7), I a1 a2 a3 a4 a5 a6 a7 → (∀ (b1 : A1) (b2 : A2) (b3 : A3) (b4 : A4) (b5 : A5) (b6 : A6) (b7 : A7), I b1 b2 b3 b4 b5 b6 b7 → μ b1 b2 b3 b4 b5 b6 b7 < μ a1 a2 a3 a4 a5 a6 a7 → ok (k b1 b2 b3 b4 b5 b6 b7) Q) → ok (F k a1 a2 a3 a4 a5 a6 a7) Q) : ∀ (n : Nat) (a1 : A1) (a2 : A2) (a3 : A3) (a4 : A4) (a5 : A5) (a6 : A6) (a7 : A7), I a1 a2 a3 a4 a5 a6 a7 → μ a1 a2 a3 a4 a5 a6 a7 < n → ok (lo7 F n a1 a2 a3 a4 a5 a6 a7) Q := by
  intro n
  induction n with
  | zero => intro a1 a2 a3 a4 a5 a6 a7 h1 h2; exact absurd h2 (Nat.not_lt_zero _)
  | succ n ih => intro a1 a2 a3 a4 a5 a6 a7 h1 h2; exact hs (lo7 F n) a1 a2 a3 a4 a5 a6 a7 h1 (fun b1 b2 b3 b4 b5 b6 b7 h3 h4 => ih b1 b2 b3 b4 b5 b6 b7 h3 (by omega))
/-- a loop that counts: from i on, with invariant I -/
theorem lo7_F {A1 A2 A3 A4 A5 A6 A7 R : Type} {F : (A1 → A2 → A3 → A4 → A5 → A6 → A7 → Option R) → A1 → A2 → A3 → A4 → A5 → A6 → A7 → Option R} {Q : R → Prop} (I : A1 → A2 → A3 → A4 → A5 → A6 → A7 → Prop) (μ : A1 → A2 → A3 → A4 → A5 → A6 → A7 → Nat) (hs : ∀ (k : A1 → A2 → A3 → A4 → A5 → A6 → A7 → Option R) (a1 : A1) (a2 : A2) (a3 : A3) (a4 : A4) (a5 : A5) (a6 : A6) (a7 : A7), I a1 a2 a3 a4 a5 a6 a7 → (∀ (b1 : A1) (b2 : A2) (b3 : A3) (b4 : A4) (b5 : A5) (b6 : A6) (b7 : A7), I b1 b2 b3 b4 b5 b6 b7 → μ b1 b2 b3 b4 b5 b6 b7 < μ a1 a2 a3 a4 a5 a6 a7 → ok (k b1 b2 b3 b4 b5 b6 b7) Q) → ok (F k a1 a2 a3 a4 a5 a6 a7) Q) {a1 : A1} {a2 : A2} {a3 : A3} {a4 : A4} {a5 : A5} {a6 : A6} {a7 : A7} (h : I a1 a2 a3 a4 a5 a6 a7) (hm : μ a1 a2 a3 a4 a5 a6 a7 < 100000) : ok (lo7 F ck_F a1 a2 a3 a4 a5 a6 a7) Q := lo7_ok I μ hs ck_F a1 a2 a3 a4 a5 a6 a7 h hm
def lo8 {A1 A2 A3 A4 A5 A6 A7 A8 R : Type} (F : (A1 → A2 → A3 → A4 → A5 → A6 → A7 → A8 → Option R) → A1 → A2 → A3 → A4 → A5 → A6 → A7 → A8 → Option R) : Nat → A1 → A2 → A3 → A4 → A5 → A6 → A7 → A8 → Option R
  | 0 => fun _ _ _ _ _ _ _ _ => none
  | n + 1 => F (lo8 F n)
theorem lo8_W {A1 A2 A3 A4 A5 A6 A7 A8 R : Type} {F : (A1 → A2 → A3 → A4 → A5 → A6 → A7 → A8 → Option R) → A1 → A2 → A3 → A4 → A5 → A6 → A7 → A8 → Option R} {r : R} (P : A1 → A2 → A3 → A4 → A5 → A6 → A7 → A8 → Prop) (hs : ∀ (k : A1 → A2 → A3 → A4 → A5 → A6 → A7 → A8 → Option R) (a1 : A1) (a2 : A2) (a3 : A3) (a4 : A4) (a5 : A5) (a6 : A6) (a7 : A7) (a8 : A8), (∀ (b1 : A1) (b2 : A2) (b3 : A3) (b4 : A4) (b5 : A5) (b6 : A6) (b7 : A7) (b8 : A8), k b1 b2 b3 b4 b5 b6 b7 b8 = some r → P b1 b2 b3 b4 b5 b6 b7 b8) → F k a1 a2 a3 a4 a5 a6 a7 a8 = some r → P a1 a2 a3 a4 a5 a6 a7 a8) : ∀ (n : Nat) (a1 : A1) (a2 : A2) (a3 : A3) (a4 : A4) (a5 : A5) (a6 : A6) (a7 : A7) (a8 : A8), lo8 F n a1 a2 a3 a4 a5 a6 a7 a8 = some r → P a1 a2 a3 a4 a5 a6 a7 a8 := by
  intro n
  induction n with
  | zero => intro a1 a2 a3 a4 a5 a6 a7 a8 h; cases h
  | succ n ih => intro a1 a2 a3 a4 a5 a6 a7 a8 h; exact hs (lo8 F n) a1 a2 a3 a4 a5 a6 a7 a8 ih h
theorem lo8_ok {A1 A2 A3 A4 A5 A6 A7 A8 R : Type} {F : (A1 → A2 → A3 → A4 → A5 → A6 → A7 → A8 → Option R) → A1 → A2 → A3 → A4 → A5 → A6 → A7 → A8 → Option R} {Q : R → Prop} (I : A1 → A2 → A3 → A4 → A5 → A6 → A7 → A8 → Prop) (μ : A1 → A2 → A3 → A4 → A5 → A6 → A7 → A8 → Nat) (hs : ∀ (k : A1 → A2 → A3 → A4 → A5 → A6 → A7 → A8 → Option R) (a1 : A1) (a2 : A2) (a3 : A3) (a4 : A4) (a5 : A5) (a6 : A6) (a7 : A7) (a8 : A8), I a1 a2 a3 a4 a5 a6 a7 a8 → (∀ (b1 : A1) (b2 : A2) (b3 : A3) (b4 : A4) (b5 : A5) (b6 : A6) (b7 : A7) (b8 : A8), I b1 b2 b3 b4 b5 b6 b7 b8 → μ b1 b2 b3 b4 b5 b6 b7 b8 < μ a1 a2 a3 a4 a5 a6 a7 a8 → ok (k b1 b2 b3 b4 b5 b6 b7 b8) Q) → ok (F k a1 a2 a3 a4 a5 a6 a7 a8) Q) : ∀ (n : Nat) (a1 : A1) (a2 : A2) (a3 : A3) (a4 : A4) (a5 : A5) (a6 : A6) (a7 : A7) (a8 : A8), I a1 a2 a3 a4 a5 a6 a7 a8 → μ a1 a2 a3 a4 a5 a6 a7 a8 < n → ok (lo8 F n a1 a2 a3 a4 a5 a6 a7 a8) Q := by
  intro n
  induction n with
  | zero => intro a1 a2 a3 a4 a5 a6 a7 a8 h1 h2; exact absurd h2 (Nat.not_lt_zero _)
  | succ n ih => intro a1 a2 a3 a4 a5 a6 a7 a8 h1 h2; exact hs (lo8 F n) a1 a2 a3 a4 a5 a6 a7 a8 h1 (fun b1 b2 b3 b4 b5 b6 b7 b8 h3 h4 => ih b1 b2 b3 b4 b5 b6 b7 b8 h3 (by omega))
/-- a loop that counts: from i on, with invariant I -/
theorem lo8_F {A1 A2 A3 A4 A5 A6 A7 A8 R : Type} {F : (A1 → A2 → A3 → A4 → A5 → A6 → A7 → A8 → Option R) → A1 → A2 → A3 → A4 → A5 → A6 → A7 → A8 → Option R} {Q : R → Prop} (I : A1 → A2 → A3 → A4 → A5 → A6 → A7 → A8 → Prop) (μ : A1 → A2 → A3 → A4 → A5 → A6 → A7 → A8 → Nat) (hs : ∀ (k : A1 → A2 → A3 → A4 → A5 → A6 → A7 → A8 → Option R) (a1 : A1) (a2 : A2) (a3 : A3) (a4 : A4) (a5 : A5) (a6 : A6) (a7 : A7) (a8 : A8), I a1 a2 a3 a4 a5 a6 a7 a8 → (∀ (b1 : A1) (b2 : A2) (b3 : A3) (b4 : A4) (b5 : A5) (b6 : A6) (b7 : A7) (b8 : A8), I b1 b2 b3 b4 b5 b6 b7 b8 → μ b1 b2 b3 b4 b5 b6 b7 b8 < μ a1 a2 a3 a4 a5 a6 a7 a8 → ok (k b1 b2 b3 b4 b5 b6 b7 b8) Q) → ok (F k a1 a2 a3 a4 a5 a6 a7 a8) Q) {a1 : A1} {a2 : A2} {a3 : A3} {a4 : A4} {a5 : A5} {a6 : A6} {a7 : A7} {a8 : A8} (h : I a1 a2 a3 a4 a5 a6 a7 a8) (hm : μ a1 a2 a3 a4 a5 a6 a7 a8 < 100000) : ok (lo8 F ck_F a1 a2 a3 a4 a5 a6 a7 a8) Q := lo8_ok I μ hs ck_F a1 a2 a3 a4 a5 a6 a7 a8 h hm
def lo9 {A1 A2 A3 A4 A5 A6 A7 A8 A9 R : Type} (F : (A1 → A2 → A3 → A4 → A5 → A6 → A7 → A8 → A9 → Option R) → A1 → A2 → A3 → A4 → A5 → A6 → A7 → A8 → A9 → Option R) : Nat → A1 → A2 → A3 → A4 → A5 → A6 → A7 → A8 → A9 → Option R
  | 0 => fun _ _ _ _ _ _ _ _ _ => none
  | n + 1 => F (lo9 F n)
theorem lo9_W {A1 A2 A3 A4 A5 A6 A7 A8 A9 R : Type} {F : (A1 → A2 → A3 → A4 → A5 → A6 → A7 → A8 → A9 → Option R) → A1 → A2 → A3 → A4 → A5 → A6 → A7 → A8 → A9 → Option R} {r : R} (P : A1 → A2 → A3 → A4 → A5 → A6 → A7 → A8 → A9 → Prop) (hs : ∀ (k : A1 → A2 → A3 → A4 → A5 → A6 → A7 → A8 → A9 → Option R) (a1 : A1) (a2 : A2) (a3 : A3) (a4 : A4) (a5 : A5) (a6 : A6) (a7 : A7) (a8 : A8) (a9 : A9), (∀ (b1 : A1) (b2 : A2) (b3 : A3) (b4 : A4) (b5 : A5) (b6 : A6) (b7 : A7) (b8 : A8) (b9 : A9), k b1 b2 b3 b4 b5 b6 b7 b8 b9 = some r → P b1 b2 b3 b4 b5 b6 b7 b8 b9) → F k a1 a2 a3 a4 a5 a6 a7 a8 a9 = some r → P a1 a2 a3 a4 a5 a6 a7 a8 a9) : ∀ (n : Nat) (a1 : A1) (a2 : A2) (a3 : A3) (a4 : A4) (a5 : A5) (a6 : A6) (a7 : A7) (a8 : A8) (a9 : A9), lo9 F n a1 a2 a3 a4 a5 a6 a7 a8 a9 = some r → P a1 a2 a3 a4 a5 a6 a7 a8 a9 := by
  intro n
  induction n with
  | zero => intro a1 a2 a3 a4 a5 a6 a7 a8 a9 h; cases h
  | succ n ih => intro a1 a2 a3 a4 a5 a6 a7 a8 a9 h; exact hs (lo9 F n) a1 a2 a3 a4 a5 a6 a7 a8 a9 ih h
theorem lo9_ok {A1 A2 A3 A4 A5 A6 A7 A8 A9 R : Type} {F : (A1 → A2 → A3 → A4 → A5 → A6 → A7 → A8 → A9 → Option R) → A1 → A2 → A3 → A4 → A5 → A6 → A7 → A8 → A9 → Option R} {Q : R → Prop} (I : A1 → A2 → A3 → A4 → A5 → A6 → A7 → A8 → A9 → Prop) (μ : A1 → A2 → A3 → A4 → A5 → A6 → A7 → A8 → A9 → Nat) (hs : ∀ (k : A1 → A2 → A3 → A4 → A5 → A6 → A7 → A8 → A9 → Option R) (a1 : A1) (a2 : A2) (a3 : A3) (a4 : A4) (a5 : A5) (a6 : A6) (a7 : A7) (a8 : A8) (a9 : A9), I a1 a2 a3 a4 a5 a6 a7 a8 a9 → (∀ (b1 : A1) (b2 : A2) (b3 : A3) (b4 : A4) (b5 : A5) (b6 : A6) (b7 : A7) (b8 : A8) (b9 : A9), I b1 b2 b3 b4 b5 b6 b7 b8 b9 → μ b1 b2 b3 b4 b5 b6 b7 b8 b9 < μ a1 a2 a3 a4 a5 a6 a7 a8 a9 → ok (k b1 b2 b3 b4 b5 b6 b7 b8 b9) Q) → ok (F k a1 a2 a3 a4 a5 a6 a7 a8 a9) Q) : ∀ (n : Nat) (a1 : A1) (a2 : A2) (a3 : A3) (a4 : A4) (a5 : A5) (a6 : A6) (a7 : A7) (a8 : A8) (a9 : A9), I a1 a2 a3 a4 a5 a6 a7 a8 a9 → μ a1 a2 a3 a4 a5 a6 a7 a8 a9 < n → ok (lo9 F n a1 a2 a3 a4 a5 a6 a7 a8 a9) Q := by
  intro n
  induction n with
  | zero => intro a1 a2 a3 a4 a5 a6 a7 a8 a9 h1 h2; exact absurd h2 (Nat.not_lt_zero _)
  | succ n ih => intro a1 a2 a3 a4 a5 a6 a7 a8 a9 h1 h2; exact hs (lo9 F n) a1 a2 a3 a4 a5 a6 a7 a8 a9 h1 (fun b1 b2 b3 b4 b5 b6 b7 b8 b9 h3 h4 => ih b1 b2 b3 b4 b5 b6 b7 b8 b9 h3 (by omega))
/-- a loop that counts: from i on, with invariant I -/
theorem lo9_F {A1 A2 A3 A4 A5 A6 A7 A8 A9 R : Type} {F : (A1 → A2 → A3 → A4 → A5 → A6 → A7 → A8 → A9 → Option R) → A1 → A2 → A3 → A4 → A5 → A6 → A7 → A8 → A9 → Option R} {Q : R → Prop} (I : A1 → A2 → A3 → A4 → A5 → A6 → A7 → A8 → A9 → Prop) (μ : A1 → A2 → A3 → A4 → A5 → A6 → A7 → A8 → A9 → Nat) (hs : ∀ (k : A1 → A2 → A3 → A4 → A5 → A6 → A7 → A8 → A9 → Option R) (a1 : A1) (a2 : A2) (a3 : A3) (a4 : A4) (a5 : A5) (a6 : A6) (a7 : A7) (a8 : A8) (a9 : A9), I a1 a2 a3 a4 a5 a6 a7 a8 a9 → (∀ (b1 : A1) (b2 : A2) (b3 : A3) (b4 : A4) (b5 : A5) (b6 : A6) (b7 : A7) (b8 : A8) (b9 : A9), I b1 b2 b3 b4 b5 b6 b7 b8 b9 → μ b1 b2 b3 b4 b5 b6 b7 b8 b9 < μ a1 a2 a3 a4 a5 a6 a7 a8 a9 → ok (k b1 b2 b3 b4 b5 b6 b7 b8 b9) Q) → ok (F k a1 a2 a3 a4 a5 a6 a7 a8 a9) Q) {a1 : A1} {a2 : A2} {a3 : A3} {a4 : A4} {a5 : A5} {a6 : A6} {a7 : A7} {a8 : A8} {a9 : A9} (h : I a1 a2 a3 a4 a5 a6 a7 a8 a9) (hm : μ a1 a2 a3 a4 a5 a6 a7 a8 a9 < 100000) : ok (lo9 F ck_F a1 a2 a3 a4 a5 a6 a7 a8 a9) Q := lo9_ok I μ hs ck_F a1 a2 a3 a4 a5 a6 a7 a8 a9 h hm
def lo10 {A1 A2 A3 A4 A5 A6 A7 A8 A9 A10 R : Type} (F : (A1 → A2 → A3 → A4 → A5 → A6 → A7 → A8 → A9 → A10 → Option R) → A1 → A2 → A3 → A4 → A5 → A6 → A7 → A8 → A9 → A10 → Option R) : Nat → A1 → A2 → A3 → A4 → A5 → A6 → A7 → A8 → A9 → A10 → Option R
  | 0 => fun _ _ _ _ _ _ _ _ _ _ => none
  | n + 1 => F (lo10 F n)
theorem lo10_W {A1 A2 A3 A4 A5 A6 A7 A8 A9 A10 R : Type} {F : (A1 → A2 → A3 → A4 → A5 → A6 → A7 → A8 → A9 → A10 → Option R) → A1 → A2 → A3 → A4 → A5 → A6 → A7 → A8 → A9 → A10 → Option R} {r : R} (P : A1 → A2 → A3 → A4 → A5 → A6 → A7 → A8 → A9 → A10 → Prop) (hs : ∀ (k : A1 → A2 → A3 → A4 → A5 → A6 → A7 → A8 → A9 → A10 → Option R) (a1 : A1) (a2 : A2) (a3 : A3) (a4 : A4) (a5 : A5) (a6 : A6) (a7 : A7) (a8 : A8) (a9 : A9) (a10 : A10), (∀ (b1 : A1) (b2 : A2) (b3 : A3) (b4 : A4) (b5 : A5) (b6 : A6) (b7 : A7) (b8 : A8) (b9 : A9) (b10 : A10), k b1 b2 b3 b4 b5 b6 b7 b8 b9 b10 = some r → P b1 b2 b3 b4 b5 b6 b7 b8 b9 b10) → F k a1 a2 a3 a4 a5 a6 a7 a8 a9 a10 = some r → P a1 a2 a3 a4 a5 a6 a7 a8 a9 a10) : ∀ (n : Nat) (a1 : A1) (a2 : A2) (a3 : A3) (a4 : A4) (a5 : A5) (a6 : A6) (a7 : A7) (a8 : A8) (a9 : A9) (a10 : A10), lo10 F n a1 a2 a3 a4 a5 a6 a7 a8 a9 a10 = some r → P a1 a2 a3 a4 a5 a6 a7 a8 a9 a10 := by
  intro n
  induction n with
  | zero => intro a1 a2 a3 a4 a5 a6 a7 a8 a9 a10 h; cases h
  | succ n ih => intro a1 a2 a3 a4 a5 a6 a7 a8 a9 a10 h; exact hs (lo10 F n) a1 a2 a3 a4 a5 a6 a7 a8 a9 a10 ih h
theorem lo10_ok {A1 A2 A3 A4 A5 A6 A7 A8 A9 A10 R : Type} {F : (A1 → A2 → A3 → A4 → A5 → A6 → A7 → A8 → A9 → A10 → Option R) → A1 → A2 → A3 → A4 → A5 → A6 → A7 → A8 → A9 → A10 → Option R} {Q : R → Prop} (I : A1 → A2 → A3 → A4 → A5 → A6 → A7 → A8 → A9 → A10 → Prop) (μ : A1 → A2 → A3 → A4 → A5 → A6 → A7 → A8 → A9 → A10 → Nat) (hs : ∀ (k : A1 → A2 → A3 → A4 → A5 → A6 → A7 → A8 → A9 → A10 → Option R) (a1 : A1) (a2 : A2) (a3 : A3) (a4 : A4) (a5 : A5) (a6 : A6) (a7 : A7) (a8 : A8) (a9 : A9) (a10 : A10), I a1 a2 a3 a4 a5 a6 a7 a8 a9 a10 → (∀ (b1 : A1) (b2 : A2) (b3 : A3) (b4 : A4) (b5 : A5) (b6 : A6) (b7 : A7) (b8 : A8) (b9 : A9) (b10 : A10), I b1 b2 b3 b4 b5 b6 b7 b8 b9 b10 → μ b1 b2 b3 b4 b5 b6 b7 b8 b9 b10 < μ a1 a2 a3 a4 a5 a6 a7 a8 a9 a10 → ok (k b1 b2 b3 b4 b5 b6 b7 b8 b9 b10) Q) → ok (F k a1 a2 a3 a4 a5 a6 a7 a8 a9 a10) Q) : ∀ (n : Nat) (a1 : A1) (a2 : A2) (a3 : A3) (a4 : A4) (a5 : A5) (a6 : A6) (a7 : A7) (a8 : A8) (a9 : A9) (a10 : A10), I a1 a2 a3 a4 a5 a6 a7 a8 a9 a10 → μ a1 a2 a3 a4 a5 a6 a7 a8 a9 a10 < n → ok (lo10 F n a1 a2 a3 a4 a5 a6 a7 a8 a9 a10) Q := by
  intro n
  induction n with
  | zero => intro a1 a2 a3 a4 a5 a6 a7 a8 a9 a10 h1 h2; exact absurd h2 (Nat.not_lt_zero _)
  | succ n ih => intro a1 a2 a3 a4 a5 a6 a7 a8 a9 a10 h1 h2; exact hs (lo10 F n) a1 a2 a3 a4 a5 a6 a7 a8 a9 a10 h1 (fun b1 b2 b3 b4 b5 b6 b7 b8 b9 b10 h3 h4 => ih b1 b2 b3 b4 b5 b6 b7 b8 b9 b10 h3 (by omega))
/-- a loop that counts: from i on, with invariant I -/
theorem lo10_F {A1 A2 A3 A4 A5 A6 A7 A8 A9 A10 R : Type} {F : (A1 → A2 → A3 → A4 → A5 → A6 → A7 → A8 → A9 → A10 → Option R) → A1 → A2 → A3 → A4 → A5 → A6 → A7 → A8 → A9 → A10 → Option R} {Q : R → Prop} (I : A1 → A2 → A3 → A4 → A5 → A6 → A7 → A8 → A9 → A10 → Prop) (μ : A1 → A2 → A3 → A4 → A5 → A6 → A7 → A8 → A9 → A10 → Nat) (hs : ∀ (k : A1 → A2 → A3 → A4 → A5 → A6 → A7 → A8 → A9 → A10 → Option R) (a1 : A1) (a2 : A2) (a3 : A3) (a4 : A4) (a5 : A5) (a6 : A6) (a7 : A7) (a8 : A8) (a9 : A9) (a10 : A10), I a1 a2 a3 a4 a5 a6 a7 a8 a9 a10 → (∀ (b1 : A1) (b2 : A2) (b3 : A3) (b4 : A4) (b5 : A5) (b6 : A6) (b7 : A7) (b8 : A8) (b9 : A9) (b10 : A10), I b1 b2 b3 b4 b5 b6 b7 b8 b9 b10 → μ b1 b2 b3 b4 b5 b6 b7 b8 b9 b10 < μ a1 a2 a3 a4 a5 a6 a7 a8 a9 a10 → ok (k b1 b2 b3 b4 b5 b6 b7 b8 b9 b10) Q) → ok (F k a1 a2 a3 a4 a5 a6 a7 a8 a9 a10) Q) {a1 : A1} {a2 : A2} {a3 : A3} {a4 : A4} {a5 : A5} {a6 : A6} {a7 : A7} {a8 : A8} {a9 : A9} {a10 : A10} (h : I a1 a2 a3 a4 a5 a6 a7 a8 a9 a10) (hm : μ a1 a2 a3 a4 a5 a6 a7 a8 a9 a10 < 100000) : ok (lo10 F ck_F a1 a2 a3 a4 a5 a6 a7 a8 a9 a10) Q := lo10_ok I μ hs ck_F a1 a2 a3 a4 a5 a6 a7 a8 a9 a10 h hm
def lo11 {A1 A2 A3 A4 A5 A6 A7 A8 A9 A10 A11 R : Type} (F : (A1 → A2 → A3 → A4 → A5 → A6 → A7 → A8 → A9 → A10 → A11 → Option R) → A1 → A2 → A3 → A4 → A5 → A6 → A7 → A8 → A9 → A10 → A11 → Option R) : Nat → A1 → A2 → A3 → A4 → A5 → A6 → A7 → A8 → A9 → A10 → A11 → Option R
  | 0 => fun _ _ _ _ _ _ _ _ _ _ _ => none
  | n + 1 => F (lo11 F n)
theorem lo11_W {A1 A2 A3 A4 A5 A6 A7 A8 A9 A10 A11 R : Type} {F : (A1 → A2 → A3 → A4 → A5 → A6 → A7 → A8 → A9 → A10 → A11 → Option R) → A1 → A2 → A3 → A4 → A5 → A6 → A7 → A8 → A9 → A10 → A11 → Option R} {r : R} (P : A1 → A2 → A3 → A4 → A5 → A6 → A7 → A8 → A9 → A10 → A11 → Prop) (hs : ∀ (k : A1 → A2 → A3 → A4 → A5 → A6 → A7 → A8 → A9 → A10 → A11 → Option R) (a1 : A1) (a2 : A2) (a3 : A3) (a4 : A4) (a5 : A5) (a6 : A6) (a7 : A7) (a8 : A8) (a9 : A9) (a10 : A10) (a11 : A11), (∀ (b1 : A1) (b2 : A2) (b3 : A3) (b4 : A4) (b5 : A5) (b6 : A6) (b7 : A7) (b8 : A8) (b9 : A9) (b10 : A10) (b11 : A11), k b1 b2 b3 b4 b5 b6 b7 b8 b9 b10 b11 = some r → P b1 b2 b3 b4 b5 b6 b7 b8 b9 b10 b11) → F k a1 a2 a3 a4 a5 a6 a7 a8 a9 a10 a11 = some r → P a1 a2 a3 a4 a5 a6 a7 a8 a9 a10 a11) : ∀ (n : Nat) (a1 : A1) (a2 : A2) (a3 : A3) (a4 : A4) (a5 : A5) (a6 : A6) (a7 : A7) (a8 : A8) (a9 : A9) (a10 : A10) (a11 : A11), lo11 F n a1 a2 a3 a4 a5 a6 a7 a8 a9 a10 a11 = some r → P a1 a2 a3 a4 a5 a6 a7 a8 a9 a10 a11 := by
  intro n
  induction n with
  | zero => intro a1 a2 a3 a4 a5 a6 a7 a8 a9 a10 a11 h; cases h
  | succ n ih => intro a1 a2 a3 a4 a5 a6 a7 a8 a9 a10 a11 h; exact hs (lo11 F n) a1 a2 a3 a4 a5 a6 a7 a8 a9 a10 a11 ih h
theorem lo11_ok {A1 A2 A3 A4 A5 A6 A7 A8 A9 A10 A11 R : Type} {F : (A1 → A2 → A3 → A4 → A5 → A6 → A7 → A8 → A9 → A10 → A11 → Option R) → A1 → A2 → A3 → A4 → A5 → A6 → A7 → A8 → A9 → A10 → A11 → Option R} {Q : R → Prop} (I : A1 → A2 → A3 → A4 → A5 → A6 → A7 → A8 → A9 → A10 → A11 → Prop) (μ : A1 → A2 → A3 → A4 → A5 → A6 → A7 → A8 → A9 → A10 → A11 → Nat) (hs : ∀ (k : A1 → A2 → A3 → A4 → A5 → A6 → A7 → A8 → A9 → A10 → A11 → Option R) (a1 : A1) (a2 : A2) (a3 : A3) (a4 : A4) (a5 : A5) (a6 : A6) (a7 : A7) (a8 : A8) (a9 : A9) (a10 : A10) (a11 : A11), I a1 a2 a3 a4 a5 a6 a7 a8 a9 a10 a11 → (∀ (b1 : A1) (b2 : A2) (b3 : A3) (b4 : A4) (b5 : A5) (b6 : A6) (b7 : A7) (b8 : A8) (b9 : A9) (b10 : A10) (b11 : A11), I b1 b2 b3 b4 b5 b6 b7 b8 b9 b10 b11 → μ b1 b2 b3 b4 b5 b6 b7 b8 b9 b10 b11 < μ a1 a2 a3 a4 a5 a6 a7 a8 a9 a10 a11 → ok (k b1 b2 b3 b4 b5 b6 b7 b8 b9 b10 b11) Q) → ok (F k a1 a2 a3 a4 a5 a6 a7 a8 a9 a10 a11) Q) : ∀ (n : Nat) (a1 : A1) (a2 : A2) (a3 : A3) (a4 : A4) (a5 : A5) (a6 : A6) (a7 : A7) (a8 : A8) (a9 : A9) (a10 : A10) (a11 : A11), I a1 a2 a3 a4 a5 a6 a7 a8 a9 a10 a11 → μ a1 a2 a3 a4 a5 a6 a7 a8 a9 a10 a11 < n → ok (lo11 F n a1 a2 a3 a4 a5 a6 a7 a8 a9 a10 a11) Q := by
  intro n
  induction n with
  | zero => intro a1 a2 a3 a4 a5 a6 a7 a8 a9 a10 a11 h1 h2; exact absurd h2 (Nat.not_lt_zero _)
  | succ n ih => intro a1 a2 a3 a4 a5 a6 a7 a8 a9 a10 a11 h1 h2; exact hs (lo11 F n) a1 a2 a3 a4 a5 a6 a7 a8 a9 a10 a11 h1 (fun b1 b2 b3 b4 b5 b6 b7 b8 b9 b10 b11 h3 h4 => ih b1 b2 b3 b4 b5 b6 b7 b8 b9 b10 b11 h3 (by omega))
/-- a loop that counts: from i on, with invariant I -/
theorem lo11_F {A1 A2 A3 A4 A5 A6 A7 A8 A9 A10 A11 R : Type} {F : (A1 → A2 → A3 → A4 → A5 → A6 → A7 → A8 → A9 → A10 → A11 → Option R) → A1 → A2 → A3 → A4 → A5 → A6 → A7 → A8 → A9 → A10 → A11 → Option R} {Q : R → Prop} (I : A1 → A2 → A3 → A4 → A5 → A6 → A7 → A8 → A9 → A10 → A11 → Prop) (μ : A1 → A2 → A3 → A4 → A5 → A6 → A7 → A8 → A9 → A10 → A11 → Nat) (hs : ∀ (k : A1 → A2 → A3 → A4 → A5 → A6 → A7 → A8 → A9 → A10 → A11 → Option R) (a1 : A1) (a2 : A2) (a3 : A3) (a4 : A4) (a5 : A5) (a6 : A6) (a7 : A7) (a8 : A8) (a9 : A9) (a10 : A10) (a11 : A11), I a1 a2 a3 a4 a5 a6 a7 a8 a9 a10 a11 → (∀ (b1 : A1) (b2 : A2) (b3 : A3) (b4 : A4) (b5 : A5) (b6 : A6) (b7 : A7) (b8 : A8) (b9 : A9) (b10 : A10) (b11 : A11), I b1 b2 b3 b4 b5 b6 b7 b8 b9 b10 b11 → μ b1 b2 b3 b4 b5 b6 b7 b8 b9 b10 b11 < μ a1 a2 a3 a4 a5 a6 a7 a8 a9 a10 a11 → ok (k b1 b2 b3 b4 b5 b6 b7 b8 b9 b10 b11) Q) → ok (F k a1 a2 a3 a4 a5 a6 a7 a8 a9 a10 a11) Q) {a1 : A1} {a2 : A2} {a3 : A3} {a4 : A4} {a5 : A5} {a6 : A6} {a7 : A7} {a8 : A8} {a9 : A9} {a10 : A10} {a11 : A11} (h : I a1 a2 a3 a4 a5 a6 a7 a8 a9 a10 a11) (hm : μ a1 a2 a3 a4 a5 a6 a7 a8 a9 a10 a11 < 100000) : ok (lo11 F ck_F a1 a2 a3 a4 a5 a6 a7 a8 a9 a10 a11) Q := lo11_ok I μ hs ck_F a1 a2 a3 a4 a5 a6 a7 a8 a9 a10 a11 h hm
def lo12 {A1 A2 A3 A4 A5 A6 A7 A8 A9 A10 A11 A12 R : Type} (F : (A1 → A2 → A3 → A4 → A5 → A6 → A7 → A8 → A9 → A10 → A11 → A12 → Option R) → A1 → A2 → A3 → A4 → A5 → A6 → A7 → A8 → A9 → A10 → A11 → A12 → Option R) : Nat → A1 → A2 → A3 → A4 → A5 → A6 → A7 → A8 → A9 → A10 → A11 → A12 → Option R
  | 0 => fun _ _ _ _ _ _ _ _ _ _ _ _ => none
  | n + 1 => F (lo12 F n)
theorem lo12_W {A1 A2 A3 A4 A5 A6 A7 A8 A9 A10 A11 A12 R : Type} {F : (A1 → A2 → A3 → A4 → A5 → A6 → A7 → A8 → A9 → A10 → A11 → A12 → Option R) → A1 → A2 → A3 → A4 → A5 → A6 → A7 → A8 → A9 → A10 → A11 → A12 → Option R} {r : R} (P : A1 → A2 → A3 → A4 → A5 → A6 → A7 → A8 → A9 → A10 → A11 → A12 → Prop) (hs : ∀ (k : A1 → A2 → A3 → A4 → A5 → A6 → A7 → A8 → A9 → A10 → A11 → A12 → Option R) (a1 : A1) (a2 : A2) (a3 : A3) (a4 : A4) (a5 : A5) (a6 : A6) (a7 : A7) (a8 : A8) (a9 : A9) (a10 : A10) (a11 : A11) (a12 : A12), (∀ (b1 : A1) (b2 : A2) (b3 : A3) (b4 : A4) (b5 : A5) (b6 : A6) (b7 : A7) (b8 : A8) (b9 : A9) (b10 : A10) (b11 : A11) (b12 : A12), k b1 b2 b3 b4 b5 b6 b7 b8 b9 b10 b11 b12 = some r → P b1 b2 b3 b4 b5 b6 b7 b8 b9 b10 b11 b12) → F k a1 a2 a3 a4 a5 a6 a7 a8 a9 a10 a11 a12 = some r → P a1 a2 a3 a4 a5 a6 a7 a8 a9 a10 a11 a12) : ∀ (n : Nat) (a1 : A1) (a2 : A2) (a3 : A3) (a4 : A4) (a5 : A5) (a6 : A6) (a7 : A7) (a8 : A8) (a9 : A9) (a10 : A10) (a11 : A11) (a12 : A12), lo12 F n a1 a2 a3 a4 a5 a6 a7 a8 a9 a10 a11 a12 = some r → P a1 a2 a3 a4 a5 a6 a7 a8 a9 a10 a11 a12 := by
  intro n
  induction n with
  | zero => intro a1 a2 a3 a4 a5 a6 a7 a8 a9 a10 a11 a12 h; cases h
  | succ n ih => intro a1 a2 a3 a4 a5 a6 a7 a8 a9 a10 a11 a12 h; exact hs (lo12 F n) a1 a2 a3 a4 a5 a6 a7 a8 a9 a10 a11 a12 ih h
theorem lo12_ok {A1 A2 A3 A4 A5 A6 A7 A8 A9 A10 A11 A12 R : Type} {F : (A1 → A2 → A3 → A4 → A5 → A6 → A7 → A8 → A9 → A10 → A11 → A12 → Option R) → A1 → A2 → A3 → A4 → A5 → A6 → A7 → A8 → A9 → A10 → A11 → A12 → Option R} {Q : R → Prop} (I : A1 → A2 → A3 → A4 → A5 → A6 → A7 → A8 → A9 → A10 → A11 → A12 → Prop) (μ : A1 → A2 → A3 → A4 → A5 → A6 → A7 → A8 → A9 → A10 → A11 → A12 → Nat) (hs : ∀ (k : A1 → A2 → A3 → A4 → A5 → A6 → A7 → A8 → A9 → A10 → A11 → A12 → Option R) (a1 : A1) (a2 : A2) (a3 : A3) (a4 : A4) (a5 : A5) (a6 : A6) (a7 : A7) (a8 : A8) (a9 : A9) (a10 : A10) (a11 : A11) (a12 : A12), I a1 a2 a3 a4 a5 a6 a7 a8 a9 a10 a11 a12 → (∀ (b1 : A1) (b2 : A2) (b3 : A3) (b4 : A4) (b5 : A5) (b6 : A6) (b7 : A7) (b8 : A8) (b9 : A9) (b10 : A10) (b11 : A11) (b12 : A12), I b1 b2 b3 b4 b5 b6 b7 b8 b9 b10 b11 b12 → μ b1 b2 b3 b4 b5 b6 b7 b8 b9 b10 b11 b12 < μ a1 a2 a3 a4 a5 a6 a7 a8 a9 a10 a11 a12 → ok (k b1 b2 b3 b4 b5 b6 b7 b8 b9 b10 b11 b12) Q) → ok (F k a1 a2 a3 a4 a5 a6 a7 a8 a9 a10 a11 a12) Q) : ∀ (n : Nat) (a1 : A1) (a2 : A2) (a3 : A3) (a4 : A4) (a5 : A5) (a6 : A6) (a7 : A7) (a8 : A8) (a9 : A9) (a10 : A10) (a11 : A11) (a12 : A12), I a1 a2 a3 a4 a5 a6 a7 a8 a9 a10 a11 a12 → μ a1 a2 a3 a4 a5 a6 a7 a8 a9 a10 a11 a12 < n → ok (lo12 F n a1 a2 a3 a4 a5 a6 a7 a8 a9 a10 a11 a12) Q := by
  intro n
  induction n with
  | zero => intro a1 a2 a3 a4 a5 a6 a7 a8 a9 a10 a11 a12 h1 h2; exact absurd h2 (Nat.not_lt_zero _)
  | succ n ih => intro a1 a2 a3 a4 a5 a6 a7 a8 a9 a10 a11 a12 h1 h2; exact hs (lo12 F n) a1 a2 a3 a4 a5 a6 a7 a8 a9 a10 a11 a12 h1 (fun b1 b2 b3 b4 b5 b6 b7 b8 b9 b10 b11 b12 h3 h4 => ih b1 b2 b3 b4 b5 b6 b7 b8 b9 b10 b11 b12 h3 (by omega))
/-- a loop that counts: from i on, with invariant I -/
theorem lo12_F {A1 A2 A3 A4 A5 A6 A7 A8 A9 A10 A11 A12 R : Type} {F : (A1 → A2 → A3 → A4 → A5 → A6 → A7 → A8 → A9 → A10 → A11 → A12 → Option R) → A1 → A2 → A3 → A4 → A5 → A6 → A7 → A8 → A9 → A10 → A11 → A12 → Option R} {Q : R → Prop} (I : A1 → A2 → A3 → A4 → A5 → A6 → A7 → A8 → A9 → A10 → A11 → A12 → Prop) (μ : A1 → A2 → A3 → A4 → A5 → A6 → A7 → A8 → A9 → A10 → A11 → A12 → Nat) (hs : ∀ (k : A1 → A2 → A3 → A4 → A5 → A6 → A7 → A8 → A9 → A10 → A11 → A12 → Option R) (a1 : A1) (a2 : A2) (a3 : A3) (a4 : A4) (a5 : A5) (a6 : A6) (a7 : A7) (a8 : A8) (a9 : A9) (a10 : A10) (a11 : A11) (a12 : A12), I a1 a2 a3 a4 a5 a6 a7 a8 a9 a10 a11 a12 → (∀ (b1 : A1) (b2 : A2) (b3 : A3) (b4 : A4) (b5 : A5) (b6 : A6) (b7 : A7) (b8 : A8) (b9 : A9) (b10 : A10) (b11 : A11) (b12 : A12), I b1 b2 b3 b4 b5 b6 b7 b8 b9 b10 b11 b12 → μ b1 b2 b3 b4 b5 b6 b7 b8 b9 b10 b11 b12 < μ a1 a2 a3 a4 a5 a6 a7 a8 a9 a10 a11 a12 → ok (k b1 b2 b3 b4 b5 b6 b7 b8 b9 b10 b11 b12) Q) → ok (F k a1 a2 a3 a4 a5 a6 a7 a8 a9 a10 a11 a12) Q) {a1 : A1} {a2 : A2} {a3 : A3} {a4 : A4} {a5 : A5} {a6 : A6} {a7 : A7} {a8 : A8} {a9 : A9} {a10 : A10} {a11 : A11} {a12 : A12} (h : I a1 a2 a3 a4 a5 a6 a7 a8 a9 a10 a11 a12) (hm : μ a1 a2 a3 a4 a5 a6 a7 a8 a9 a10 a11 a12 < 100000) : ok (lo12 F ck_F a1 a2 a3 a4 a5 a6 a7 a8 a9 a10 a11 a12) Q := lo12_ok I μ hs ck_F a1 a2 a3 a4 a5 a6 a7 a8 a9 a10 a11 a12 h hm
