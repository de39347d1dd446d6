/-! reduce, a prime field: the invariant, and all rows but the pivot's cleared in its column -/
def ev (s : Nat → Int32) (q : Nat) : Nat := (s q).toNatClampNeg
theorem ev_eq {s : Nat → Int32} {q z : Nat} (h : s q = nI z) (hz : z < 2 ^ 31) : ev s q = z := by unfold ev; rw [h, nI_clamp hz]
theorem zp {p z : Nat} (h : (p : Int) ∣ (z : Int)) (hz : z < p) : z = 0 := Nat.eq_zero_of_dvd_of_lt (Int.natCast_dvd_natCast.mp h) hz
def Pe (p n rows : Nat) (s : Nat → Int32) : Prop := ∀ i, i < rows → ∀ j, j < n → s (12 * i + j) = nI (ev s (12 * i + j)) ∧ ev s (12 * i + j) < p
def Tp (p n c k : Nat) (e e' : Nat → Nat) (i : Nat) : Prop := ∃ u : Nat, (p : Int) ∣ (u : Int) * e (12 * k + c) - e (12 * i + c) ∧ ∀ j, j < n → (p : Int) ∣ (e' (12 * i + j) : Int) - ((e (12 * i + j) : Int) - u * e (12 * k + j))
def Rp (p n rows c r : Nat) (pv : Nat → Nat) (A : Nat → Nat → Int) (e : Nat → Nat) : Prop :=
  r ≤ rows ∧ (∀ i, i < r → pv i < c) ∧ (∀ i j, i < j → j < r → pv i < pv j) ∧
  (∀ i j, i < rows → j < r → i ≠ j → e (12 * i + pv j) = 0) ∧ (∀ i, i < r → e (12 * i + pv i) ≠ 0) ∧
  (∀ i, r ≤ i → i < rows → ∀ j, j < c → e (12 * i + j) = 0) ∧
  ∀ w, Kill (p : Int) n rows (fun i j => (e (12 * i + j) : Int)) w ↔ Kill (p : Int) n rows A w
theorem Rp_0 {p n rows : Nat} {pv : Nat → Nat} {e : Nat → Nat} : Rp p n rows 0 0 pv (fun i j => (e (12 * i + j) : Int)) e :=
  ⟨Nat.zero_le _, fun _ hi => absurd hi (by omega), fun _ j _ hj => absurd hj (by omega), fun _ j _ hj => absurd hj (by omega), fun _ hi => absurd hi (by omega), fun _ _ _ j hj => absurd hj (by omega), fun _ => Iff.rfl⟩
theorem Rp_skip {p n rows c r : Nat} {pv : Nat → Nat} {A : Nat → Nat → Int} {e : Nat → Nat} (h : Rp p n rows c r pv A e) (hz : ∀ i, r ≤ i → i < rows → e (12 * i + c) = 0) : Rp p n rows (c + 1) r pv A e := by
  obtain ⟨h1, h2, h3, h4, h5, h6, h7⟩ := h
  refine ⟨h1, fun i hi => ?_, h3, h4, h5, fun i hi hi2 j hj => ?_, h7⟩
  · have := h2 i hi; omega
  · by_cases q : j = c
    · rw [q]; exact hz i hi hi2
    · exact h6 i hi hi2 j (by omega)
theorem Rp_swap {p n rows c r i : Nat} {pv : Nat → Nat} {A : Nat → Nat → Int} {e e' : Nat → Nat} (h : Rp p n rows c r pv A e) (hcn : c ≤ n) (hr : r < rows) (hi : r ≤ i) (hir : i < rows) (hs : ∀ k, k < rows → ∀ j, j < n → e' (12 * k + j) = e (12 * (if k = r then i else if k = i then r else k) + j)) : Rp p n rows c r pv A e' := by
  obtain ⟨h1, h2, h3, h4, h5, h6, h7⟩ := h
  have hσ : ∀ k, k < rows → (if k = r then i else if k = i then r else k) < rows := by
    intro k hk
    split
    · exact hir
    · split
      · exact hr
      · exact hk
  have hlo : ∀ k, k < r → (if k = r then i else if k = i then r else k) = k := by
    intro k hk
    rw [if_neg (by omega), if_neg (by omega)]
  have hhi : ∀ k, r ≤ k → r ≤ (if k = r then i else if k = i then r else k) := by
    intro k hk
    split
    · exact hi
    · split <;> omega
  refine ⟨h1, h2, h3, ?_, ?_, ?_, ?_⟩
  · intro k j hk hj hkj
    have hj2 := h2 j hj
    rw [hs k hk _ (by omega)]
    refine h4 _ j (hσ k hk) hj ?_
    by_cases q : k < r
    · rw [hlo k q]; exact hkj
    · have := hhi k (by omega); omega
  · intro k hk
    have hj2 := h2 k hk
    rw [hs k (by omega) _ (by omega), hlo k hk]
    exact h5 k hk
  · intro k hk hk2 j hj
    rw [hs k hk2 j (by omega)]
    exact h6 _ (hhi k hk) (hσ k hk2) j hj
  · intro w
    rw [← h7 w]
    constructor
    · intro g k hk S
      have g1 := g _ (hσ k hk) S
      have e9 : ∀ j, j < n → ((e' (12 * (if k = r then i else if k = i then r else k) + j) : Nat) : Int) = (e (12 * k + j) : Int) := by
        intro j hj
        rw [hs _ (hσ k hk) j hj]
        by_cases q : k = r
        · subst q
          rw [if_pos rfl]
          by_cases q2 : i = k
          · rw [if_pos q2, q2]
          · rw [if_neg q2, if_pos rfl]
        · rw [if_neg q]
          by_cases q2 : k = i
          · rw [if_pos q2, if_pos rfl, q2]
          · rw [if_neg q2, if_neg q, if_neg q2]
      rw [wd_cg e9] at g1
      exact g1
    · intro g k hk S
      show (p : Int) ∣ wd n (fun j => (e' (12 * k + j) : Int)) w S
      rw [wd_cg (b := fun j => (e (12 * (if k = r then i else if k = i then r else k) + j) : Int)) (fun j hj => by rw [hs k hk j hj])]
      exact g _ (hσ k hk) S
theorem Rp_piv {p n rows c r : Nat} {pv : Nat → Nat} {A : Nat → Nat → Int} {e e' : Nat → Nat} (hp : p ∈ PR) (h : Rp p n rows c r pv A e) (hr : r < rows) (hc : c < n) (hb : ∀ i, i < rows → ∀ j, j < n → e (12 * i + j) < p ∧ e' (12 * i + j) < p) (hpv : e (12 * r + c) ≠ 0) (hrow : ∀ j, j < n → e' (12 * r + j) = e (12 * r + j)) (hT : ∀ i, i < rows → i ≠ r → Tp p n c r e e' i) : Rp p n rows (c + 1) (r + 1) (fun j => if j = r then c else pv j) A e' := by
  obtain ⟨h1, h2, h3, h4, h5, h6, h7⟩ := h
  obtain ⟨p0, p1⟩ := pr_le p hp
  have hn1 : ¬ (p : Int) ∣ 1 := fun g => by
    have : p ∣ 1 := Int.natCast_dvd_natCast.mp (by simpa using g)
    have := Nat.dvd_one.mp this
    omega
  -- a column where the pivot's row is zero keeps its residue
  have keep : ∀ i, i < rows → i ≠ r → ∀ j, j < n → e (12 * r + j) = 0 → (e' (12 * i + j) = 0 ↔ e (12 * i + j) = 0) := by
    intro i hi hir j hj hz
    obtain ⟨u, -, hu⟩ := hT i hi hir
    have a1 := hu j hj
    rw [hz] at a1
    have a2 : (p : Int) ∣ (e' (12 * i + j) : Int) - (e (12 * i + j) : Int) := by simpa using a1
    constructor
    · intro q
      rw [q] at a2
      refine zp ?_ (hb i hi j hj).1
      have := Int.dvd_neg.mpr a2
      simpa using this
    · intro q
      rw [q] at a2
      refine zp ?_ (hb i hi j hj).2
      simpa using a2
  have clr : ∀ i, i < rows → i ≠ r → e' (12 * i + c) = 0 := by
    intro i hi hir
    obtain ⟨u, hu0, hu⟩ := hT i hi hir
    refine zp ?_ (hb i hi c hc).2
    have := Int.dvd_sub (hu c hc) hu0
    have e9 : (e' (12 * i + c) : Int) - ((e (12 * i + c) : Int) - u * e (12 * r + c)) - ((u : Int) * e (12 * r + c) - e (12 * i + c)) = (e' (12 * i + c) : Int) := by omega
    rw [e9] at this
    exact this
  refine ⟨by omega, ?_, ?_, ?_, ?_, ?_, ?_⟩
  · intro i hi
    by_cases q : i = r
    · simp only [if_pos q]; omega
    · simp only [if_neg q]; have := h2 i (by omega); omega
  · intro i j hij hj
    have q : i ≠ r := by omega
    by_cases q2 : j = r
    · simp only [if_neg q, if_pos q2]; exact h2 i (by omega)
    · simp only [if_neg q, if_neg q2]; exact h3 i j hij (by omega)
  · intro i j hi hj hij
    by_cases q2 : j = r
    · simp only [if_pos q2]; exact clr i hi (by omega)
    · simp only [if_neg q2]
      have b1 := h2 j (by omega)
      by_cases q : i = r
      · subst q; rw [hrow _ (by omega)]; exact h4 i j hi (by omega) hij
      · exact (keep i hi q _ (by omega) (h4 r j hr (by omega) (by omega))).mpr (h4 i j hi (by omega) hij)
  · intro i hi
    by_cases q : i = r
    · subst q
      show e' (12 * i + (if i = i then c else pv i)) ≠ 0
      rw [if_pos rfl, hrow c hc]; exact hpv
    · simp only [if_neg q]
      have b1 := h2 i (by omega)
      intro g
      exact h5 i (by omega) ((keep i (by omega) q _ (by omega) (h4 r i hr (by omega) (by omega))).mp g)
  · intro i hi hi2 j hj
    by_cases q : j = c
    · rw [q]; exact clr i hi2 (by omega)
    · exact (keep i hi2 (by omega) j (by omega) (h6 r (Nat.le_refl r) hr j (by omega))).mpr (h6 i (by omega) hi2 j (by omega))
  · intro w
    rw [← h7 w]
    have op : ∀ i, i < rows → i ≠ r → (∀ S, (p : Int) ∣ wd n (fun j => (e (12 * r + j) : Int)) w S) → ((∀ S, (p : Int) ∣ wd n (fun j => (e' (12 * i + j) : Int)) w S) ↔ ∀ S, (p : Int) ∣ wd n (fun j => (e (12 * i + j) : Int)) w S) := by
      intro i hi hir gr
      obtain ⟨u, -, hu⟩ := hT i hi hir
      exact kill_op (m := p) (Or.inr hp) (g := 1) (x := 1) (y := (u : Int)) (fun j hj => by rw [Int.one_mul, Int.one_mul]; exact hu j hj) gr hn1 hn1
    constructor
    · intro g i hi
      have gr : ∀ S, (p : Int) ∣ wd n (fun j => (e (12 * r + j) : Int)) w S := fun S => by
        rw [← wd_cg (a := fun j => (e' (12 * r + j) : Int)) (fun j hj => by rw [hrow j hj])]; exact g r hr S
      by_cases q : i = r
      · subst q; exact gr
      · exact (op i hi q gr).mp (g i hi)
    · intro g i hi
      by_cases q : i = r
      · subst q
        intro S
        show (p : Int) ∣ wd n (fun j => (e' (12 * i + j) : Int)) w S
        rw [wd_cg (b := fun j => (e (12 * i + j) : Int)) (fun j hj => by rw [hrow j hj])]; exact g i hi S
      · exact (op i hi q (g r hr)).mpr (g i hi)
