/-! minorOf: the whole method -/
theorem sI_pos {K x : Int} (hK : 0 < K) : sI (K * x) = sI x := by
  unfold sI
  by_cases q1 : x = 0
  · rw [q1, Int.mul_zero]
  · have e1 : K * x ≠ 0 := Int.mul_ne_zero (by omega) q1
    by_cases q2 : x < 0
    · have e2 : K * x < 0 := Int.mul_neg_of_pos_of_neg hK q2
      rw [if_neg q1, if_pos q2, if_neg e1, if_pos e2]
    · have e2 : 0 < K * x := Int.mul_pos hK (by omega)
      rw [if_neg q1, if_neg q2, if_neg e1, if_neg (by omega)]
/-- over the integers: the sign of the minor (times a sign that only R fixes) -/
theorem mo_okQ {Q : (Int32 × (Nat → Int32) × (Nat → Int32) × (Nat → Int32) × (Nat → Int32) × (Nat → Int32) × (Nat → Nat → Int32)) → Prop} {sm pvs fr0 fc0 sm0 pn pm : Nat → Int32} {pd : Nat → Nat → Int32} {V : Nat → Int} {pv : Nat → Nat} {N R S : Nat} (h : PO pn pm pd V) (hN : N ≤ 12) (hR : R ≤ 12) (hS : S < 2 ^ N) (hSR : cnt N S.testBit = R) (hpv : ∀ i, i < R → pvs i = nI (pv i) ∧ pv i < N) (hpi : ∀ i j, i < j → j < R → pv i < pv j) (hO0 : ∀ i j, i < R → j < R → i ≠ j → V (12 * i + pv j) = 0) (hO1 : ∀ i, i < R → 0 < V (12 * i + pv i)) (hs : ∀ i, i < R → ∀ e, e < N → sz (V (12 * i + e)) 14) (hVs : ∀ q, 156 ≤ q → q < 192 → sz (V q) 150)
    (hQ : ∀ r : (Int32 × (Nat → Int32) × (Nat → Int32) × (Nat → Int32) × (Nat → Int32) × (Nat → Int32) × (Nat → Nat → Int32)), r.1 = sI (tri R * wl N (ol (fun i e => V (12 * i + e)) R) S) → (∃ V', PO r.2.2.2.2.1 r.2.2.2.2.2.1 r.2.2.2.2.2.2 V' ∧ (∀ q, q < 156 → V' q = V q) ∧ ∀ q, 156 ≤ q → q < 192 → sz (V' q) 150) → Q r) : ok (f_R_minorOf (nI R) (nI N) 0 sm pvs fr0 fc0 sm0 pn pm pd (nI S)) Q := by
  unfold f_R_minorOf
  refine ok_jn (fun k37 => ∀ (n : Nat) (w : Nat → Int32) (t : Nat → Nat), n = cnt N S.testBit → n ≤ N → (∀ i, i < n → w i = nI (t i) ∧ t i < N) → (∀ i j, i < j → j < n → t i < t j) → msk N (inP n t) = S → ok (k37 (nI n) w) Q) ?_ (fun k37 h37 => mc_ok hN hS h37)
  intro n wc t0 hn _ hwc ht0 hm0
  rw [hSR] at hn
  subst hn
  refine ok_jn (fun k60 => ∀ w : Nat → Int32, (∀ i, i < n → w i = nI i) → ok (k60 w) Q) ?_ (fun k60 h60 => mr_ok hR h60)
  intro wr hwr
  refine ok_jn (fun k164 => ∀ (g : Int32) (n' : Nat) (wr wc : Nat → Int32) (rr t : Nat → Nat) (d K : Int), (d = 1 ∧ g = 1 ∨ d = -1 ∧ g = -1) → 0 < K → ((∀ i, i < n → (fun i e => V (12 * i + e)) i (pv i) = 1) → K = 1) → n' ≤ 6 → (∀ i, i < n' → wr i = nI (rr i) ∧ rr i < n) → (∀ i, i < n' → wc i = nI (t i) ∧ t i < N) → (∀ i j, i < j → j < n' → t i < t j) → tri n * wl N (ol (fun i e => V (12 * i + e)) n) S = d * K * (tri n' * wl N (ol (fun a => (fun i e => V (12 * i + e)) (rr a)) n') (msk N (inP n' t))) → ok (k164 g (nI n') wr wc) Q) ?_ (fun k164 h164 => mm_ok (O := fun i e => V (12 * i + e)) hN hR hS hpv hpi hO0 hO1 hwr hwc ht0 hm0 h164)
  intro g n' wr' wc' rr t d K hd hK _ hn' hr ht hti heq
  refine ok_jn (fun k184 => ∀ (w9 qn qm : Nat → Int32) (qd : Nat → Nat → Int32) (V' : Nat → Int), PO qn qm qd V' → (∀ q, q < 156 → V' q = V q) → (∀ q, 156 ≤ q → q < 192 → sz (V' q) 150) → ok (k184 (sI (tri n' * wl N (ol (fun i e => V (12 * rr i + e)) n') (msk N (inP n' t)))) w9 qn qm qd) Q) ?_ ?_
  · intro w9 qn qm qd V' hV' h1 h2
    refine ok_if (fun _ => ?_) (fun q => absurd (by decide) q)
    refine ok_some (hQ _ ?_ ⟨V', hV', h1, h2⟩)
    show g * sI _ = _
    rw [heq, sI_mul hd, Int.mul_assoc d K, ← sI_mul hd, ← sI_mul hd, sI_pos hK]
  · intro k184 h184
    refine ok_if (fun _ => ?_) (fun q => absurd (by decide) q)
    refine ok_b4 (det_okQ (Q := fun r => r.1 = sI (tri n' * wl N (ol (fun i e => V (12 * rr i + e)) n') (msk N (inP n' t))) ∧ ∃ V', PO r.2.1 r.2.2.1 r.2.2.2 V' ∧ (∀ q, q < 156 → V' q = V q) ∧ ∀ q, 156 ≤ q → q < 192 → sz (V' q) 150) h hn' hN (fun i hi => ⟨(hr i hi).1, by have := (hr i hi).2; omega⟩) ht hti (fun i hi e he => hs (rr i) (hr i hi).2 e he) hVs (fun r hr => ⟨hr.1, hr.2.choose, hr.2.choose_spec.1, hr.2.choose_spec.2.1, fun q a b => hr.2.choose_spec.2.2 q a b (hVs q a b)⟩)) ?_
    rintro a1 a2 a3 a4 ⟨e1, V', e2, e3, e4⟩
    dsimp only at e1 e2
    subst e1
    exact h184 _ _ _ _ V' e2 e3 e4
/-- in a prime field: is the minor zero -/
theorem mop_okQ {Q : (Int32 × (Nat → Int32) × (Nat → Int32) × (Nat → Int32) × (Nat → Int32) × (Nat → Int32) × (Nat → Nat → Int32)) → Prop} {sm pvs fr0 fc0 sm0 pn pm : Nat → Int32} {pd : Nat → Nat → Int32} {pv : Nat → Nat} {p N R S : Nat} (hp : p ∈ PR) (hN : N ≤ 12) (hR : R ≤ 12) (hS : S < 2 ^ N) (hSR : cnt N S.testBit = R) (hpv : ∀ i, i < R → pvs i = nI (pv i) ∧ pv i < N) (hpi : ∀ i j, i < j → j < R → pv i < pv j) (hO0 : ∀ i j, i < R → j < R → i ≠ j → ev sm (12 * i + pv j) = 0) (hO1 : ∀ i, i < R → ev sm (12 * i + pv i) = 1) (hs : ∀ i, i < R → ∀ e, e < N → sm (12 * i + e) = nI (ev sm (12 * i + e)) ∧ ev sm (12 * i + e) < p)
    (hQ : ∀ r : (Int32 × (Nat → Int32) × (Nat → Int32) × (Nat → Int32) × (Nat → Int32) × (Nat → Int32) × (Nat → Nat → Int32)), (r.1 = 1 ∧ ¬ (p : Int) ∣ wl N (ol (fun i e => (ev sm (12 * i + e) : Int)) R) S ∨ r.1 = 0 ∧ (p : Int) ∣ wl N (ol (fun i e => (ev sm (12 * i + e) : Int)) R) S) → r.2.2.2.2.1 = pn → r.2.2.2.2.2.1 = pm → r.2.2.2.2.2.2 = pd → Q r) : ok (f_R_minorOf (nI R) (nI N) (nI p) sm pvs fr0 fc0 sm0 pn pm pd (nI S)) Q := by
  obtain ⟨p0, p1⟩ := pr_le p hp
  unfold f_R_minorOf
  refine ok_jn (fun k37 => ∀ (n : Nat) (w : Nat → Int32) (t : Nat → Nat), n = cnt N S.testBit → n ≤ N → (∀ i, i < n → w i = nI (t i) ∧ t i < N) → (∀ i j, i < j → j < n → t i < t j) → msk N (inP n t) = S → ok (k37 (nI n) w) Q) ?_ (fun k37 h37 => mc_ok hN hS h37)
  intro n wc t0 hn _ hwc ht0 hm0
  rw [hSR] at hn
  subst hn
  refine ok_jn (fun k60 => ∀ w : Nat → Int32, (∀ i, i < n → w i = nI i) → ok (k60 w) Q) ?_ (fun k60 h60 => mr_ok hR h60)
  intro wr hwr
  refine ok_jn (fun k164 => ∀ (g : Int32) (n' : Nat) (wr wc : Nat → Int32) (rr t : Nat → Nat) (d K : Int), (d = 1 ∧ g = 1 ∨ d = -1 ∧ g = -1) → 0 < K → ((∀ i, i < n → (fun i e => (ev sm (12 * i + e) : Int)) i (pv i) = 1) → K = 1) → n' ≤ 6 → (∀ i, i < n' → wr i = nI (rr i) ∧ rr i < n) → (∀ i, i < n' → wc i = nI (t i) ∧ t i < N) → (∀ i j, i < j → j < n' → t i < t j) → tri n * wl N (ol (fun i e => (ev sm (12 * i + e) : Int)) n) S = d * K * (tri n' * wl N (ol (fun a => (fun i e => (ev sm (12 * i + e) : Int)) (rr a)) n') (msk N (inP n' t))) → ok (k164 g (nI n') wr wc) Q) ?_ (fun k164 h164 => mm_ok (O := fun i e => (ev sm (12 * i + e) : Int)) hN hR hS hpv hpi (fun i j hi hj hij => by show (ev sm (12 * i + pv j) : Int) = 0; rw [hO0 i j hi hj hij]; rfl) (fun i hi => by show (0 : Int) < (ev sm (12 * i + pv i) : Int); rw [hO1 i hi]; decide) hwr hwc ht0 hm0 h164)
  intro g n' wr' wc' rr t d K hd hK hK1 hn' hr ht hti heq
  have K1 := hK1 (fun i hi => by show (ev sm (12 * i + pv i) : Int) = 1; rw [hO1 i hi]; rfl)
  subst K1
  have hiff : (p : Int) ∣ wl N (ol (fun i e => (ev sm (12 * i + e) : Int)) n) S ↔ (p : Int) ∣ wl N (ol (fun i e => (ev sm (12 * rr i + e) : Int)) n') (msk N (inP n' t)) := by
    have t1 : ∀ k, tri k = 1 ∨ tri k = -1 := by
      intro k
      induction k with
      | zero => exact Or.inl rfl
      | succ k ih =>
        simp only [tri]
        rcases ih with q | q <;> rcases ps_or k with q2 | q2 <;> rw [q, q2] <;> decide
    have hd' : d = 1 ∨ d = -1 := by
      rcases hd with q | q
      · exact Or.inl q.1
      · exact Or.inr q.1
    rw [← d_canc (t1 n), heq, Int.mul_one, d_canc hd', d_canc (t1 n')]
  refine ok_jn (fun k184 => ∀ (s0 : Int32) (w9 : Nat → Int32), (s0 = 1 ∧ ¬ (p : Int) ∣ wl N (ol (fun i e => (ev sm (12 * i + e) : Int)) n) S ∨ s0 = 0 ∧ (p : Int) ∣ wl N (ol (fun i e => (ev sm (12 * i + e) : Int)) n) S) → ok (k184 s0 w9 pn pm pd) Q) ?_ ?_
  · intro s0 w9 h0
    refine ok_if (fun q => absurd ((nI_le0 (by omega)).mp q) (by omega)) (fun _ => ?_)
    exact ok_some (hQ _ h0 rfl rfl rfl)
  · intro k184 h184
    refine ok_if (fun q => absurd ((nI_le0 (by omega)).mp q) (by omega)) (fun _ => ?_)
    refine ok_b2 (sd_okQ (Q := fun r => r.1 = 1 ∧ ¬ (p : Int) ∣ wl N (ol (fun i e => (ev sm (12 * rr i + e) : Int)) n') (msk N (inP n' t)) ∨ r.1 = 0 ∧ (p : Int) ∣ wl N (ol (fun i e => (ev sm (12 * rr i + e) : Int)) n') (msk N (inP n' t))) hp hn' hN (fun i hi => ⟨(hr i hi).1, by have := (hr i hi).2; omega⟩) ht hti (fun i hi e he => hs (rr i) (hr i hi).2 e he) (fun r hr => hr)) ?_
    intro a1 a2 e1
    dsimp only at e1
    rw [← hiff] at e1
    exact h184 a1 a2 e1
