/-! reduce, a prime field: the whole method -/
def Rq (p n rows R : Nat) (pv : Nat → Nat) (A : Nat → Nat → Int) (e : Nat → Nat) : Prop :=
  R ≤ rows ∧ (∀ i, i < R → pv i < n) ∧ (∀ i j, i < j → j < R → pv i < pv j) ∧ (∀ i j, i < R → j < R → i ≠ j → e (12 * i + pv j) = 0) ∧
  (∀ i, i < R → e (12 * i + pv i) = 1) ∧
  ∀ w, Kill (p : Int) n R (fun i j => (e (12 * i + j) : Int)) w ↔ Kill (p : Int) n rows A w
theorem Rq_of {p n rows r : Nat} {pv : Nat → Nat} {A : Nat → Nat → Int} {e e' : Nat → Nat} (hp : p ∈ PR) (h : Rp p n rows n r pv A e) (hset : ∀ i, i < r → ∃ x : Nat, x * e (12 * i + pv i) % p = 1 ∧ ∀ j, j < n → e' (12 * i + j) = e (12 * i + j) * x % p) : Rq p n rows r pv A e' := by
  obtain ⟨h1, h2, h3, h4, h5, h6, h7⟩ := h
  obtain ⟨p0, p1⟩ := pr_le p hp
  have hn1 : ¬ (p : Int) ∣ 1 := fun g => by
    have : p ∣ 1 := Int.natCast_dvd_natCast.mp (by simpa using g)
    have := Nat.dvd_one.mp this
    omega
  refine ⟨h1, h2, h3, ?_, ?_, ?_⟩
  · intro i j hi hj hij
    obtain ⟨x, -, hx⟩ := hset i hi
    rw [hx _ (h2 j hj), h4 i j (by omega) hj hij, Nat.zero_mul, Nat.zero_mod]
  · intro i hi
    obtain ⟨x, x1, hx⟩ := hset i hi
    rw [hx _ (h2 i hi), Nat.mul_comm]; exact x1
  · intro w
    rw [← h7 w]
    have op : ∀ i, i < r → ((∀ S, (p : Int) ∣ wd n (fun j => (e' (12 * i + j) : Int)) w S) ↔ ∀ S, (p : Int) ∣ wd n (fun j => (e (12 * i + j) : Int)) w S) := by
      intro i hi
      obtain ⟨x, x1, hx⟩ := hset i hi
      refine kill_op (m := p) (Or.inr hp) (b := fun _ => 0) (g := 1) (x := (x : Int)) (y := 0) (fun j hj => ?_) (fun S => by rw [wd_0a]; exact Int.dvd_zero _) hn1 (fun g => ?_)
      · show (p : Int) ∣ 1 * (e' (12 * i + j) : Int) - ((x : Int) * (e (12 * i + j) : Int) - 0 * 0)
        rw [hx j hj, Int.one_mul, Int.mul_zero, Int.sub_zero, Int.mul_comm]
        have a1 := Nat.div_add_mod (e (12 * i + j) * x) p
        refine ⟨-((e (12 * i + j) * x / p : Nat) : Int), ?_⟩
        have a2 : ((p * (e (12 * i + j) * x / p) + e (12 * i + j) * x % p : Nat) : Int) = ((e (12 * i + j) * x : Nat) : Int) := by rw [a1]
        rw [Int.natCast_add, Int.natCast_mul, Int.natCast_mul] at a2
        rw [Int.mul_neg]
        omega
      · have a1 : p ∣ x := Int.natCast_dvd_natCast.mp g
        have a2 : x * e (12 * i + pv i) % p = 0 := Nat.mod_eq_zero_of_dvd (Nat.dvd_mul_right_of_dvd a1 _)
        omega
    constructor
    · intro g i hi
      by_cases q : i < r
      · exact (op i q).mp (g i q)
      · intro S
        show (p : Int) ∣ wd n (fun j => (e (12 * i + j) : Int)) w S
        rw [wd_cg (b := fun _ => 0) (fun j hj => by rw [h6 i (by omega) hi j hj]; rfl), wd_0a]
        exact Int.dvd_zero _
    · intro g i hi
      exact (op i hi).mpr (g i (by omega))
