/-- what holds at the head of determinant's outer loop -/
def Dm (N n c : Nat) (t : Nat → Nat) (O0 : Nat → Nat → Int) (V W : Nat → Int) (g : Int32) : Prop :=
  ∃ (E O : Nat → Nat → Int) (D d : Int), Bz N n c t D (tri c) E O ∧ (d = 1 ∧ g = 1 ∨ d = -1 ∧ g = -1) ∧ (∀ S, wl N (ol O n) S = d * wl N (ol O0 n) S) ∧
  (∀ i j, c ≤ i → i < n → c ≤ j → j < n → W (156 + (6 * i + j)) = E i (t j)) ∧ (1 ≤ c → W (156 + (6 * (c - 1) + (c - 1))) = D) ∧ (c = 0 → D = 1) ∧
  (∀ k, k < n → ∀ e, e < N → (O k e).natAbs ≤ 65536 ^ 14) ∧ (∀ q, q < 156 → W q = V q) ∧ ∀ q, 156 ≤ q → q < 192 → sz (V q) 150 → sz (W q) 150
theorem Dm_sz {N n c : Nat} {t : Nat → Nat} {O0 : Nat → Nat → Int} {V W : Nat → Int} {g : Int32} (h : Dm N n c t O0 V W g) (hn : n ≤ 6) (htn : ∀ i, i < n → t i < N) {i j : Nat} (hi : c ≤ i) (hin : i < n) (hj : c ≤ j) (hjn : j < n) : sz (W (156 + (6 * i + j))) (14 * (c + 1) + 1) := by
  obtain ⟨E, O, D, d, h1, h2, h3, h4, h5, h6, h7, h8, h9⟩ := h
  rw [h4 i j hi hin hj hjn]
  exact fbd_szI (by omega) (Bz_bd h1 h7 htn hi hin (htn j hjn))
theorem Bz_Ds {N n c : Nat} {t : Nat → Nat} {D s : Int} {E O : Nat → Nat → Int} (h : Bz N n c t D s E O) (hc : c ≤ n) (hn : n ≤ 6) (hO : ∀ k, k < n → ∀ e, e < N → (O k e).natAbs ≤ 65536 ^ 14) : sz D (14 * c + 1) := by
  refine fbd_szI (by omega) ?_
  have e1 := wl_fbd (n := N) (C := 65536 ^ 14) (rs := ol O c) (fun q hq => by obtain ⟨j, hj, rfl⟩ := ol_mem hq; exact hO j (by omega)) (msk_lt (n := N) (f := inP c t))
  rw [h.2.2.1, Int.natAbs_mul, ol_len] at e1
  have e2 : s.natAbs = 1 := by rcases h.2.1 with q | q <;> rw [q] <;> rfl
  rw [e2, Nat.one_mul] at e1
  exact e1
theorem Dm_end {N n : Nat} {t : Nat → Nat} {O0 : Nat → Nat → Int} {V W : Nat → Int} {g : Int32} (h : Dm N n n t O0 V W g) (hn : 1 ≤ n) : g * sI (W (156 + (6 * (n - 1) + (n - 1)))) = sI (tri n * wl N (ol O0 n) (msk N (inP n t))) := by
  obtain ⟨E, O, D, d, h1, h2, h3, h4, h5, h6, h7, h8, h9⟩ := h
  rw [h5 hn, sI_mul h2]
  congr 1
  have e1 := h1.2.2.1
  rw [h3] at e1
  have e2 : d * d = 1 := by rcases h2 with ⟨rfl, -⟩ | ⟨rfl, -⟩ <;> rfl
  have e3 := tri_sq n
  generalize wl N (ol O0 n) (msk N (inP n t)) = X at *
  generalize tri n = s at *
  have e4 : s * X = s * (d * d) * X := by rw [e2]; grind
  rw [e4, show s * (d * d) * X = s * d * (d * X) by grind, e1, show s * d * (s * D) = d * ((s * s) * D) by grind, e3]
  grind
theorem Dm_nopiv {N n c : Nat} {t : Nat → Nat} {O0 : Nat → Nat → Int} {V W : Nat → Int} {g : Int32} (h : Dm N n c t O0 V W g) (hc : c < n) (htn : ∀ i, i < n → t i < N) (hti : ∀ i j, i < n → j < n → t i = t j → i = j) (hz : ∀ i, c ≤ i → i < n → W (156 + (6 * i + c)) = 0) : (0 : Int32) = sI (tri n * wl N (ol O0 n) (msk N (inP n t))) := by
  obtain ⟨E, O, D, d, h1, h2, h3, h4, h5, h6, h7, h8, h9⟩ := h
  have e1 := wl_nopiv (m := 0) (Or.inl rfl) (D := D) (fun q => h1.1 (z_dvd.mp q)) hc htn hti (E := E) (O := O) (fun i hi hin S => by rw [h1.2.2.2.2 i hi hin S, Int.sub_self]; exact Int.dvd_zero _) (fun i j hi hin hj => by
    by_cases q : j = c
    · subst q; rw [← h4 i j hi hin (Nat.le_refl j) hc, hz i hi hin]; exact Int.dvd_zero _
    · rw [h1.2.2.2.1 i j hi hin (by omega)]; exact Int.dvd_zero _)
  have e2 := z_dvd.mp e1
  rw [h3] at e2
  have e3 : wl N (ol O0 n) (msk N (inP n t)) = 0 := by
    rcases Int.mul_eq_zero.mp e2 with q | q
    · rcases h2 with ⟨rfl, -⟩ | ⟨rfl, -⟩ <;> cases q
    · exact q
  rw [e3, Int.mul_zero]; rfl
theorem Dm_swap {N n c i : Nat} {t : Nat → Nat} {O0 : Nat → Nat → Int} {V W X : Nat → Int} {g : Int32} (h : Dm N n c t O0 V W g) (hn : n ≤ 6) (hci : c < i) (hin : i < n) (htn : ∀ i, i < n → t i < N) (hX : ∀ j, j < n → X (156 + (6 * i + j)) = W (156 + (6 * c + j)) ∧ X (156 + (6 * c + j)) = W (156 + (6 * i + j))) (hXo : ∀ q, q < 192 → (∀ j, j < n → q ≠ 156 + (6 * i + j) ∧ q ≠ 156 + (6 * c + j)) → X q = W q) (hXs : ∀ q, 156 ≤ q → q < 192 → sz (V q) 150 → sz (X q) 150) : Dm N n c t O0 V X (-g) := by
  obtain ⟨E, O, D, d, h1, h2, h3, h4, h5, h6, h7, h8, h9⟩ := h
  refine ⟨fun k => if k = c then E i else if k = i then E c else E k, fun k => if k = c then O i else if k = i then O c else O k, D, -d, Bz_swap h1 (by omega) hin (fun k _ => rfl) (fun k _ => rfl), ?_, ?_, ?_, ?_, h6, ?_, ?_, hXs⟩
  · rcases h2 with ⟨rfl, rfl⟩ | ⟨rfl, rfl⟩
    · exact Or.inr ⟨rfl, rfl⟩
    · exact Or.inl ⟨rfl, rfl⟩
  · intro S
    rw [ol_swap (O := O) hci hin (fun k _ => rfl), h3]
    grind
  · intro k j hk hkn hj hjn
    dsimp only
    by_cases q : k = c
    · subst q
      rw [if_pos rfl, (hX j hjn).2]; exact h4 i j (by omega) hin hj hjn
    · rw [if_neg q]
      by_cases q2 : k = i
      · subst q2
        rw [if_pos rfl, (hX j hjn).1]; exact h4 c j (Nat.le_refl c) (by omega) hj hjn
      · rw [if_neg q2, hXo _ (by omega) (fun p hp => by omega)]; exact h4 k j hk hkn hj hjn
  · intro hc1
    rw [hXo _ (by omega) (fun p hp => by omega)]; exact h5 hc1
  · intro k hk e he
    dsimp only
    split
    · exact h7 i hin e he
    · split
      · exact h7 c (by omega) e he
      · exact h7 k hk e he
  · intro q hq
    rw [hXo q (by omega) (fun p hp => by omega)]; exact h8 q hq
theorem Dm_step {N n c : Nat} {t : Nat → Nat} {O0 : Nat → Nat → Int} {V W X : Nat → Int} {g : Int32} (h : Dm N n c t O0 V W g) (hn : n ≤ 6) (hc : c < n) (htn : ∀ i, i < n → t i < N) (hti : ∀ i j, i < j → j < n → t i < t j) (hne : W (156 + (6 * c + c)) ≠ 0) (hX : ∃ D : Int, (c = 0 → D = 1) ∧ (1 ≤ c → W (156 + (6 * (c - 1) + (c - 1))) = D) ∧ ∀ k j, c < k → k < n → c < j → j < n → X (156 + (6 * k + j)) = (W (156 + (6 * k + j)) * W (156 + (6 * c + c)) - W (156 + (6 * k + c)) * W (156 + (6 * c + j))).tdiv D) (hXo : ∀ q, q < 192 → (∀ k j, c < k → k < n → c < j → j < n → q ≠ 156 + (6 * k + j)) → X q = W q) (hXs : ∀ q, 156 ≤ q → q < 192 → sz (V q) 150 → sz (X q) 150) : Dm N n (c + 1) t O0 V X g := by
  have hti2 : ∀ i j, i < n → j < n → t i = t j → i = j := by
    intro i j hi hj e
    rcases Nat.lt_trichotomy i j with q | q | q
    · have := hti i j q hj; omega
    · exact q
    · have := hti j i q hi; omega
  obtain ⟨E, O, D, d, h1, h2, h3, h4, h5, h6, h7, h8, h9⟩ := h
  obtain ⟨D', x0, x1, x2⟩ := hX
  have eD : D' = D := by
    rcases Nat.eq_zero_or_pos c with q | q
    · rw [x0 q, h6 q]
    · rw [← x1 q, h5 q]
  subst eD
  have hEc : E c (t c) = W (156 + (6 * c + c)) := (h4 c c (Nat.le_refl c) hc (Nat.le_refl c) hc).symm
  have hne' : E c (t c) ≠ 0 := by rw [hEc]; exact hne
  have hst := Bz_step (E' := fun k e => (E k e * E c (t c) - E k (t c) * E c e).tdiv D') h1 hc htn hti2 hne' (fun k hk hkn e he => Int.mul_tdiv_cancel' (Bz_div h1 hc htn hti2 hne' hk hkn he))
  rw [sg_inc hc htn hti] at hst
  refine ⟨_, O, _, d, hst, h2, h3, ?_, ?_, fun e => absurd e (by omega), h7, ?_, hXs⟩
  · intro k j hk hkn hj hjn
    rw [x2 k j (by omega) hkn (by omega) hjn, h4 k j (by omega) hkn (by omega) hjn, h4 k c (by omega) hkn (by omega) hc, h4 c j (by omega) hc (by omega) hjn, hEc]
  · intro _
    rw [show c + 1 - 1 = c by omega, hXo _ (by omega) (fun k j _ _ _ _ => by omega), hEc]
  · intro q hq
    rw [hXo q (by omega) (fun k j _ _ _ _ => by omega)]; exact h8 q hq
theorem Dm_0 {N n : Nat} {t : Nat → Nat} {O0 : Nat → Nat → Int} {V W : Nat → Int} (hO : ∀ k, k < n → ∀ e, e < N → (O0 k e).natAbs ≤ 65536 ^ 14) (hW : ∀ i j, i < n → j < n → W (156 + (6 * i + j)) = O0 i (t j)) (hWo : ∀ q, q < 156 → W q = V q) (hWs : ∀ q, 156 ≤ q → q < 192 → sz (V q) 150 → sz (W q) 150) : Dm N n 0 t O0 V W 1 :=
  ⟨O0, O0, 1, 1, Bz_0, Or.inl ⟨rfl, rfl⟩, fun S => by rw [Int.one_mul], fun i j _ hi _ hj => hW i j hi hj, fun h => absurd h (by omega), fun _ => rfl, hO, hWo, hWs⟩
