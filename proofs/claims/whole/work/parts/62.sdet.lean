/-! smallDeterminant: is the minor zero in the prime field -/
theorem nI_subI {a b : Nat} (h : b ≤ a) : nI a - nI b = nI (a - b) := by
  have e : nI a = nI (a - b) + nI b := by rw [nI_add, show a - b + b = a by omega]
  rw [e, Int32.add_sub_cancel]
def Pm (p n : Nat) (w : Nat → Int32) : Prop := ∀ i j, i < n → j < n → w (6 * i + j) = nI (ev w (6 * i + j)) ∧ ev w (6 * i + j) < p
def Sm (p N n c : Nat) (t : Nat → Nat) (O0 : Nat → Nat → Int) (w : Nat → Int32) : Prop :=
  ∃ (E O : Nat → Nat → Int) (d : Int), Bq p N n c t E O ∧ (d = 1 ∨ d = -1) ∧ (∀ S, wl N (ol O n) S = d * wl N (ol O0 n) S) ∧
  ∀ i j, c ≤ i → i < n → j < n → (p : Int) ∣ E i (t j) - ev w (6 * i + j)
theorem d_canc {p : Nat} {d x : Int} (hd : d = 1 ∨ d = -1) : (p : Int) ∣ d * x ↔ (p : Int) ∣ x := by
  rcases hd with rfl | rfl
  · rw [Int.one_mul]
  · rw [show -1 * x = - x by omega, Int.dvd_neg]
theorem dv_tr {m a b : Int} (h : m ∣ a - b) : m ∣ a ↔ m ∣ b := by
  constructor
  · intro q
    have := Int.dvd_sub q h
    rwa [show a - (a - b) = b by omega] at this
  · intro q
    have := Int.dvd_add h q
    rwa [show a - b + b = a by omega] at this
theorem Sm_end {p N n : Nat} {t : Nat → Nat} {O0 : Nat → Nat → Int} {w : Nat → Int32} (h : Sm p N n n t O0 w) : ¬ (p : Int) ∣ wl N (ol O0 n) (msk N (inP n t)) := by
  obtain ⟨E, O, d, h1, h2, h3, h4⟩ := h
  have := h1.1
  rw [h3, d_canc h2] at this
  exact this
theorem Sm_nopiv {p N n c : Nat} {t : Nat → Nat} {O0 : Nat → Nat → Int} {w : Nat → Int32} (hp : p ∈ PR) (h : Sm p N n c t O0 w) (hc : c < n) (htn : ∀ i, i < n → t i < N) (hti : ∀ i j, i < n → j < n → t i = t j → i = j) (hz : ∀ i, c ≤ i → i < n → ev w (6 * i + c) = 0) : (p : Int) ∣ wl N (ol O0 n) (msk N (inP n t)) := by
  obtain ⟨p0, p1⟩ := pr_le p hp
  obtain ⟨E, O, d, h1, h2, h3, h4⟩ := h
  have e1 := wl_nopiv (m := p) (Or.inr hp) (D := 1) (fun q => by have := Int.le_of_dvd (by decide) q; omega) hc htn hti (E := E) (O := O) (fun i hi hin S => h1.2.2 i hi hin S) (fun i j hi hin hj => by
    by_cases q : j = c
    · subst q
      refine (dv_tr (h4 i j hi hin hc)).mpr ?_
      rw [hz i hi hin]; exact Int.dvd_zero _
    · exact h1.2.1 i j hi hin (by omega))
  rw [h3, d_canc h2] at e1
  exact e1
theorem Sm_swap {p N n c i : Nat} {t : Nat → Nat} {O0 : Nat → Nat → Int} {w w' : Nat → Int32} (h : Sm p N n c t O0 w) (hci : c ≤ i) (hin : i < n) (hw : ∀ j, j < n → w' (6 * i + j) = w (6 * c + j) ∧ w' (6 * c + j) = w (6 * i + j)) (hwo : ∀ k j, k < n → k ≠ i → k ≠ c → j < n → w' (6 * k + j) = w (6 * k + j)) : Sm p N n c t O0 w' := by
  by_cases hic : i = c
  · subst hic
    obtain ⟨E, O, d, h1, h2, h3, h4⟩ := h
    refine ⟨E, O, d, h1, h2, h3, fun k j hk hkn hj => ?_⟩
    have e : ev w' (6 * k + j) = ev w (6 * k + j) := by
      unfold ev
      by_cases q : k = i
      · rw [q, (hw j hj).1]
      · rw [hwo k j hkn q q hj]
    rw [e]; exact h4 k j hk hkn hj
  · obtain ⟨E, O, d, h1, h2, h3, h4⟩ := h
    refine ⟨fun k => if k = c then E i else if k = i then E c else E k, fun k => if k = c then O i else if k = i then O c else O k, -d, Bq_swap h1 hci hin (fun k _ => rfl) (fun k _ => rfl), by omega, fun S => ?_, fun k j hk hkn hj => ?_⟩
    · rw [ol_swap (O := O) (show c < i by omega) hin (fun k _ => rfl), h3]
      grind
    · dsimp only
      by_cases q : k = c
      · subst q
        have e : ev w' (6 * k + j) = ev w (6 * i + j) := by unfold ev; rw [(hw j hj).2]
        rw [if_pos rfl, e]; exact h4 i j hci hin hj
      · rw [if_neg q]
        by_cases q2 : k = i
        · subst q2
          have e : ev w' (6 * k + j) = ev w (6 * c + j) := by unfold ev; rw [(hw j hj).1]
          rw [if_pos rfl, e]; exact h4 c j (Nat.le_refl c) (by omega) hj
        · have e : ev w' (6 * k + j) = ev w (6 * k + j) := by unfold ev; rw [hwo k j hkn q2 q hj]
          rw [if_neg q2, e]; exact h4 k j hk hkn hj
theorem Sm_step {p N n c : Nat} {t : Nat → Nat} {O0 : Nat → Nat → Int} {w w' : Nat → Int32} (hp : p ∈ PR) (h : Sm p N n c t O0 w) (hc : c < n) (htn : ∀ i, i < n → t i < N) (hti : ∀ i j, i < n → j < n → t i = t j → i = j) (hcc : ev w (6 * c + c) ≠ 0) (hcp : ev w (6 * c + c) < p) (hw : ∀ k, c < k → k < n → ∃ f : Nat, (p : Int) ∣ (f : Int) * ev w (6 * c + c) - ev w (6 * k + c) ∧ (∀ j, c ≤ j → j < n → (p : Int) ∣ (ev w' (6 * k + j) : Int) - ((ev w (6 * k + j) : Int) - f * ev w (6 * c + j))) ∧ ∀ j, j < c → ev w' (6 * k + j) = ev w (6 * k + j)) : Sm p N n (c + 1) t O0 w' := by
  obtain ⟨p0, p1⟩ := pr_le p hp
  obtain ⟨E, O, d, h1, h2, h3, h4⟩ := h
  have hex : ∃ f : Nat → Nat, ∀ k, c < k → k < n → (p : Int) ∣ (f k : Int) * ev w (6 * c + c) - ev w (6 * k + c) ∧ (∀ j, c ≤ j → j < n → (p : Int) ∣ (ev w' (6 * k + j) : Int) - ((ev w (6 * k + j) : Int) - f k * ev w (6 * c + j))) ∧ ∀ j, j < c → ev w' (6 * k + j) = ev w (6 * k + j) := by
    refine ⟨fun k => if hk : c < k ∧ k < n then (hw k hk.1 hk.2).choose else 0, fun k hk hkn => ?_⟩
    have := (hw k hk hkn).choose_spec
    simp only [dif_pos (show c < k ∧ k < n from ⟨hk, hkn⟩)]
    exact this
  obtain ⟨f, hf⟩ := hex
  refine ⟨fun k e => E k e - f k * E c e, O, d, Bq_step (Or.inr hp) h1 hc htn hti ?_ ?_, h2, h3, ?_⟩
  · intro q
    have := (dv_tr (h4 c c (Nat.le_refl c) hc hc)).mp q
    exact hcc (zp this hcp)
  · intro k hk hkn
    refine ⟨f k, fun e he => by simp, ?_⟩
    obtain ⟨f1, f2, f3⟩ := hf k hk hkn
    have a1 := h4 k c (by omega) hkn hc
    have a2 := h4 c c (Nat.le_refl c) hc hc
    have a3 := Int.dvd_sub a1 (Int.dvd_mul_of_dvd_right (b := (f k : Int)) a2)
    have a4 := Int.dvd_sub a3 f1
    have e : E k (t c) - ev w (6 * k + c) - (f k : Int) * (E c (t c) - ev w (6 * c + c)) - ((f k : Int) * ev w (6 * c + c) - ev w (6 * k + c)) = E k (t c) - f k * E c (t c) := by grind
    rw [e] at a4
    exact a4
  · intro k j hk hkn hj
    obtain ⟨f1, f2, f3⟩ := hf k (by omega) hkn
    have a1 := h4 k j (by omega) hkn hj
    have a2 := h4 c j (Nat.le_refl c) hc hj
    by_cases q : c ≤ j
    · have a3 := Int.dvd_sub (Int.dvd_sub a1 (Int.dvd_mul_of_dvd_right (b := (f k : Int)) a2)) (f2 j q hj)
      have e : E k (t j) - ev w (6 * k + j) - (f k : Int) * (E c (t j) - ev w (6 * c + j)) - ((ev w' (6 * k + j) : Int) - ((ev w (6 * k + j) : Int) - f k * ev w (6 * c + j))) = E k (t j) - f k * E c (t j) - ev w' (6 * k + j) := by grind
      rw [e] at a3
      exact a3
    · dsimp only
      rw [f3 j (by omega)]
      have a4 : (p : Int) ∣ E c (t j) := h1.2.1 c j (Nat.le_refl c) hc (by omega)
      have a5 := Int.dvd_sub a1 (Int.dvd_mul_of_dvd_right (b := (f k : Int)) a4)
      have e : E k (t j) - ev w (6 * k + j) - (f k : Int) * E c (t j) = E k (t j) - f k * E c (t j) - ev w (6 * k + j) := by omega
      rw [e] at a5
      exact a5
theorem Sm_0 {p N n : Nat} {t : Nat → Nat} {O0 : Nat → Nat → Int} {w : Nat → Int32} (hp : p ∈ PR) (hw : ∀ i j, i < n → j < n → (p : Int) ∣ O0 i (t j) - ev w (6 * i + j)) : Sm p N n 0 t O0 w := by
  obtain ⟨p0, p1⟩ := pr_le p hp
  exact ⟨O0, O0, 1, Bq_0 (fun q => by have := Int.le_of_dvd (by decide) q; omega), Or.inl rfl, fun S => by rw [Int.one_mul], fun i j _ hi hj => hw i j hi hj⟩
theorem sd_okQ {Q : (Int32 × (Nat → Int32)) → Prop} {fr fc sm w0 : Nat → Int32} {rr t : Nat → Nat} {p N n : Nat} (hp : p ∈ PR) (hn : n ≤ 6) (hN : N ≤ 12) (hfr : ∀ i, i < n → fr i = nI (rr i) ∧ rr i < 12) (hfc : ∀ j, j < n → fc j = nI (t j) ∧ t j < N) (hti : ∀ i j, i < j → j < n → t i < t j) (hs : ∀ i, i < n → ∀ e, e < N → sm (12 * rr i + e) = nI (ev sm (12 * rr i + e)) ∧ ev sm (12 * rr i + e) < p) (hQ : ∀ r : (Int32 × (Nat → Int32)), (r.1 = 1 ∧ ¬ (p : Int) ∣ wl N (ol (fun i e => (ev sm (12 * rr i + e) : Int)) n) (msk N (inP n t)) ∨ r.1 = 0 ∧ (p : Int) ∣ wl N (ol (fun i e => (ev sm (12 * rr i + e) : Int)) n) (msk N (inP n t))) → Q r) : ok (f_R_smallDet (nI p) 36 w0 156 sm 12 fr 12 fc (nI n)) Q := by
  obtain ⟨p0, p1⟩ := pr_le p hp
  have htn : ∀ i, i < n → t i < N := fun i hi => (hfc i hi).2
  have hti2 : ∀ i j, i < n → j < n → t i = t j → i = j := by
    intro i j hi hj e
    rcases Nat.lt_trichotomy i j with q | q | q
    · have := hti i j q hj; omega
    · exact q
    · have := hti j i q hi; omega
  have hpz : ¬ nI p = 0 := fun q => by have := (nI_eq0 (by omega)).mp q; omega
  unfold f_R_smallDet
  refine ok_jn (fun k58 => ∀ w : Nat → Int32, Pm p n w → Sm p N n 0 t (fun i e => (ev sm (12 * rr i + e) : Int)) w → ok (k58 w) Q) ?_ ?_
  · intro w hPw hSw
    refine lo2_F (fun v w => ∃ c : Nat, c ≤ n ∧ v = nI c ∧ Pm p n w ∧ Sm p N n c t (fun i e => (ev sm (12 * rr i + e) : Int)) w) (fun v _ => n - v.toNatClampNeg) ?_ ⟨0, Nat.zero_le n, nI_0.symm, hPw, hSw⟩ (by omega)
    clear hPw hSw w
    rintro kr v w ⟨c, hc, rfl, hPw, hSw⟩ ih
    refine ok_if (fun q => ?_) (fun q => ?_)
    · have e : c = n := by
        have := (nI_leI (by omega) (by omega)).mp q
        omega
      subst e
      exact ok_some (hQ _ (Or.inl ⟨rfl, Sm_end hSw⟩))
    · have hlt : c < n := by
        rcases Nat.lt_or_ge c n with q1 | q1
        · exact q1
        · exact absurd ((nI_leI (by omega) (by omega)).mpr q1) q
      refine ok_jn (fun k92 => ∀ i : Nat, c ≤ i → i ≤ n → (∀ k, c ≤ k → k < i → ev w (6 * k + c) = 0) → (i < n → ev w (6 * i + c) ≠ 0) → ok (k92 (nI i)) Q) ?_ ?_
      · intro i hci hin hz hnz
        refine ok_if (fun q2 => ?_) (fun q2 => ?_)
        · have e : i = n := (nI_eq (by omega) (by omega)).mp q2
          subst e
          exact ok_some (hQ _ (Or.inr ⟨rfl, Sm_nopiv hp hSw hlt htn hti2 hz⟩))
        · have hin2 : i < n := by
            rcases Nat.lt_or_ge i n with q3 | q3
            · exact q3
            · exact absurd (show nI i = nI n by rw [show i = n by omega]) q2
          have hnz2 := hnz hin2
          refine ok_jn (fun k166 => ∀ x : Nat → Int32, Pm p n x → Sm p N n c t (fun i e => (ev sm (12 * rr i + e) : Int)) x → ev x (6 * c + c) ≠ 0 → ok (k166 x) Q) ?_ ?_
          · intro x hPx hSx hxn
            rw [ix6]
            refine ok_in (vp_in_nI (by omega) (by decide)) ?_
            obtain ⟨c1, c2⟩ := hPx c c hlt hlt
            rw [nI_clamp (by omega), c1]
            refine ok_b1 (inv_ok hp (by omega) c2) ?_
            rintro r9 ⟨by', rfl, y1, y2, y3⟩
            refine ok_nmr (nI (c + 1)) (nI_1 ..) ?_
            refine ok_jn (fun k289 => ∀ y : Nat → Int32, Pm p n y → Sm p N n (c + 1) t (fun i e => (ev sm (12 * rr i + e) : Int)) y → ok (k289 y) Q) ?_ ?_
            · intro y hPy hSy
              refine ok_nmr (nI (c + 1)) (nI_1 ..) ?_
              exact ih _ _ ⟨c + 1, hlt, rfl, hPy, hSy⟩ (by rw [nI_clamp (by omega), nI_clamp (by omega)]; omega)
            · intro k289 h289
              refine lo2_F (fun v y => ∃ k : Nat, c < k ∧ k ≤ n ∧ v = nI k ∧ Pm p n y ∧ (∀ a, c < a → a < k → ∃ f : Nat, (p : Int) ∣ (f : Int) * ev x (6 * c + c) - ev x (6 * a + c) ∧ (∀ j, c ≤ j → j < n → (p : Int) ∣ (ev y (6 * a + j) : Int) - ((ev x (6 * a + j) : Int) - f * ev x (6 * c + j))) ∧ ∀ j, j < c → ev y (6 * a + j) = ev x (6 * a + j)) ∧ ∀ q, (∀ a j, c < a → a < k → c ≤ j → j < n → q ≠ 6 * a + j) → y q = x q) (fun v _ => n - v.toNatClampNeg) ?_ ⟨c + 1, by omega, by omega, rfl, hPx, fun a h1 h2 => absurd h1 (by omega), fun _ _ => rfl⟩ (by omega)
              rintro ks v y ⟨k, hck, hkn, rfl, hPy, yy1, yy2⟩ ih2
              refine ok_if (fun q3 => ?_) (fun q3 => ?_)
              · have e : k = n := by
                  have := (nI_leI (by omega) (by omega)).mp q3
                  omega
                subst e
                exact h289 y hPy (Sm_step hp hSx hlt htn hti2 hxn c2 yy1)
              · have hk2 : k < n := by
                  rcases Nat.lt_or_ge k n with q1 | q1
                  · exact q1
                  · exact absurd ((nI_leI (by omega) (by omega)).mpr q1) q3
                rw [ix6]
                refine ok_in (vp_in_nI (by omega) (by decide)) (ok_nz hpz ?_)
                obtain ⟨k1, k2⟩ := hPy k c hk2 hlt
                have ykc : y (6 * k + c) = x (6 * k + c) := yy2 _ (fun a j a1 a2 a3 a4 => by omega)
                have eykc : ev y (6 * k + c) = ev x (6 * k + c) := by unfold ev; rw [ykc]
                have hb : ev x (6 * k + c) * by' < 2 ^ 31 := by
                  rw [eykc] at k2
                  have : ev x (6 * k + c) * by' ≤ 251 * 251 := Nat.mul_le_mul (by omega) (by omega)
                  omega
                refine ok_nmr (nI (ev x (6 * k + c) * by' % p)) (by rw [nI_clamp (by omega), k1, eykc, pk_mul, pk_rem hb (by omega) (by omega)]) ?_
                generalize hf : ev x (6 * k + c) * by' % p = f
                have hfp : f < p := by rw [← hf]; exact Nat.mod_lt _ (by omega)
                have hfd : (p : Int) ∣ (f : Int) * ev x (6 * c + c) - ev x (6 * k + c) := by
                  have q1 : (f : Int) = ((ev x (6 * k + c) * by' : Nat) : Int) - p * ((ev x (6 * k + c) * by' / p : Nat) : Int) := by
                    have := Nat.div_add_mod (ev x (6 * k + c) * by') p
                    rw [hf] at this
                    have q9 : ((p * (ev x (6 * k + c) * by' / p) + f : Nat) : Int) = ((ev x (6 * k + c) * by' : Nat) : Int) := by rw [this]
                    push_cast at q9 ⊢
                    omega
                  have q2 : ((by' * ev x (6 * c + c) : Nat) : Int) = 1 + p * ((by' * ev x (6 * c + c) / p : Nat) : Int) := by
                    have := Nat.div_add_mod (by' * ev x (6 * c + c)) p
                    rw [y3] at this
                    have q9 : ((p * (by' * ev x (6 * c + c) / p) + 1 : Nat) : Int) = ((by' * ev x (6 * c + c) : Nat) : Int) := by rw [this]
                    push_cast at q9 ⊢
                    omega
                  push_cast at q1 q2
                  refine ⟨(ev x (6 * k + c) : Int) * ((by' * ev x (6 * c + c) / p : Nat) : Int) - ((ev x (6 * k + c) * by' / p : Nat) : Int) * ev x (6 * c + c), ?_⟩
                  push_cast
                  rw [q1]
                  grind
                refine ok_jn (fun k283 => ∀ z : Nat → Int32, Pm p n z → (∀ j, c ≤ j → j < n → (p : Int) ∣ (ev z (6 * k + j) : Int) - ((ev x (6 * k + j) : Int) - f * ev x (6 * c + j))) → (∀ q, (∀ j, c ≤ j → j < n → q ≠ 6 * k + j) → z q = y q) → ok (k283 z) Q) ?_ ?_
                · intro z hPz z1 z2
                  refine ok_nmr (nI (k + 1)) (nI_1 ..) ?_
                  refine ih2 _ _ ⟨k + 1, by omega, hk2, rfl, hPz, ?_, ?_⟩ (by rw [nI_clamp (by omega), nI_clamp (by omega)]; omega)
                  · intro a a1 a2
                    by_cases q4 : a = k
                    · subst q4
                      refine ⟨f, hfd, z1, fun j hj => ?_⟩
                      unfold ev
                      rw [z2 _ (fun j' _ _ => by omega), yy2 _ (fun a' j' _ _ _ _ => by omega)]
                    · obtain ⟨f', b1, b2, b3⟩ := yy1 a a1 (by omega)
                      have e : ∀ j, j < n → ev z (6 * a + j) = ev y (6 * a + j) := by
                        intro j hj
                        unfold ev
                        rw [z2 _ (fun j' _ _ => by omega)]
                      exact ⟨f', b1, fun j j1 j2 => by rw [e j j2]; exact b2 j j1 j2, fun j hj => by rw [e j (by omega)]; exact b3 j hj⟩
                  · intro q hq
                    rw [z2 q (fun j j1 j2 => hq k j hck (by omega) j1 j2)]
                    exact yy2 q (fun a j a1 a2 a3 a4 => hq a j a1 (by omega) a3 a4)
                · intro k283 h283
                  refine lo2_F (fun v z => ∃ j : Nat, c ≤ j ∧ j ≤ n ∧ v = nI j ∧ Pm p n z ∧ (∀ a, c ≤ a → a < j → (p : Int) ∣ (ev z (6 * k + a) : Int) - ((ev x (6 * k + a) : Int) - f * ev x (6 * c + a))) ∧ ∀ q, (∀ a, c ≤ a → a < j → q ≠ 6 * k + a) → z q = y q) (fun v _ => n - v.toNatClampNeg) ?_ ⟨c, Nat.le_refl c, hc, rfl, hPy, fun a h1 h2 => absurd h1 (by omega), fun _ _ => rfl⟩ (by omega)
                  rintro ks3 v z ⟨j, hcj, hjn, rfl, hPz, z1, z2⟩ ih3
                  refine ok_if (fun q4 => ?_) (fun q4 => ?_)
                  · have e : j = n := by
                      have := (nI_leI (by omega) (by omega)).mp q4
                      omega
                    subst e
                    exact h283 z hPz z1 z2
                  · have hj2 : j < n := by
                      rcases Nat.lt_or_ge j n with q1 | q1
                      · exact q1
                      · exact absurd ((nI_leI (by omega) (by omega)).mpr q1) q4
                    rw [ix6, ix6]
                    refine ok_in (vp_in_nI (by omega) (by decide)) (ok_in (vp_in_nI (by omega) (by decide)) (ok_nz hpz (ok_in (vp_in_nI (by omega) (by decide)) ?_)))
                    obtain ⟨s1, s2⟩ := hPz k j hk2 hj2
                    obtain ⟨s3, s4⟩ := hPz c j hlt hj2
                    have ek : ev z (6 * k + j) = ev x (6 * k + j) := by
                      unfold ev
                      rw [z2 _ (fun a a1 a2 => by omega), yy2 _ (fun a' j' _ _ _ _ => by omega)]
                    have ec : ev z (6 * c + j) = ev x (6 * c + j) := by
                      unfold ev
                      rw [z2 _ (fun a a1 a2 => by omega), yy2 _ (fun a' j' _ _ _ _ => by omega)]
                    have hb2 : ev x (6 * k + j) + (p - f) * ev x (6 * c + j) < 2 ^ 31 := by
                      rw [ek] at s2
                      rw [ec] at s4
                      have : (p - f) * ev x (6 * c + j) ≤ 251 * 251 := Nat.mul_le_mul (by omega) (by omega)
                      omega
                    refine ok_nmr (nI (j + 1)) (nI_1 ..) ?_
                    rw [nI_clamp (by omega), nI_clamp (by omega), s1, s3, ek, ec, nI_subI (by omega), pk_mul, nI_add, pk_rem hb2 (by omega) (by omega)]
                    generalize hy : (ev x (6 * k + j) + (p - f) * ev x (6 * c + j)) % p = y'
                    have hyp : y' < p := by rw [← hy]; exact Nat.mod_lt _ (by omega)
                    have hyd : (p : Int) ∣ (y' : Int) - ((ev x (6 * k + j) : Int) - f * ev x (6 * c + j)) := by
                      have := Nat.div_add_mod (ev x (6 * k + j) + (p - f) * ev x (6 * c + j)) p
                      rw [hy] at this
                      have q9 : ((p * ((ev x (6 * k + j) + (p - f) * ev x (6 * c + j)) / p) + y' : Nat) : Int) = ((ev x (6 * k + j) + (p - f) * ev x (6 * c + j) : Nat) : Int) := by rw [this]
                      generalize (ev x (6 * k + j) + (p - f) * ev x (6 * c + j)) / p = u at q9
                      have q8 : ((p - f : Nat) : Int) = p - f := by omega
                      push_cast at q9
                      rw [q8] at q9
                      refine ⟨(ev x (6 * c + j) : Int) - u, ?_⟩
                      grind
                    have eo : ∀ q, q ≠ 6 * k + j → ev (upd z (6 * k + j) (nI y')) q = ev z q := by
                      intro q hq; unfold ev; rw [pk_un hq]
                    have es : ev (upd z (6 * k + j) (nI y')) (6 * k + j) = y' := ev_eq (pk_us ..) (by omega)
                    refine ih3 _ _ ⟨j + 1, by omega, hj2, rfl, ?_, ?_, ?_⟩ (by rw [nI_clamp (by omega), nI_clamp (by omega)]; omega)
                    · intro a b a1 b1
                      by_cases q5 : 6 * a + b = 6 * k + j
                      · rw [q5, es, pk_us]; exact ⟨rfl, hyp⟩
                      · rw [eo _ q5, pk_un q5]; exact hPz a b a1 b1
                    · intro a a1 a2
                      by_cases q5 : a = j
                      · subst q5; rw [es]; exact hyd
                      · rw [eo _ (by omega)]; exact z1 a a1 (by omega)
                    · intro q hq
                      rw [pk_un (hq j hcj (by omega))]
                      exact z2 q (fun a a1 a2 => hq a a1 (by omega))
          · intro k166 h166
            refine lo2_F (fun v x => ∃ j : Nat, j ≤ n ∧ v = nI j ∧ (∀ a, a < j → x (6 * i + a) = w (6 * c + a) ∧ x (6 * c + a) = w (6 * i + a)) ∧ ∀ q, (∀ a, a < j → q ≠ 6 * i + a ∧ q ≠ 6 * c + a) → x q = w q) (fun v _ => n - v.toNatClampNeg) ?_ ⟨0, Nat.zero_le n, nI_0.symm, fun a ha => absurd ha (by omega), fun _ _ => rfl⟩ (by omega)
            rintro ks v x ⟨j, hj, rfl, x1, x2⟩ ih2
            refine ok_if (fun q3 => ?_) (fun q3 => ?_)
            · have e : j = n := by
                have := (nI_leI (by omega) (by omega)).mp q3
                omega
              subst e
              have hxo : ∀ k b, k < j → k ≠ i → k ≠ c → b < j → x (6 * k + b) = w (6 * k + b) := fun k b _ ki kc hb => x2 _ (fun a ha => by omega)
              refine h166 x ?_ (Sm_swap hSw hci hin2 x1 hxo) ?_
              · intro a b ha hb
                by_cases q4 : a = i
                · subst q4
                  have := hPw c b hlt hb
                  unfold ev at this ⊢
                  rw [(x1 b hb).1]; exact this
                · by_cases q5 : a = c
                  · subst q5
                    have := hPw i b hin2 hb
                    unfold ev at this ⊢
                    rw [(x1 b hb).2]; exact this
                  · have := hPw a b ha hb
                    unfold ev at this ⊢
                    rw [hxo a b ha q4 q5 hb]; exact this
              · unfold ev at hnz2 ⊢
                rw [(x1 c hlt).2]; exact hnz2
            · have hj2 : j < n := by
                rcases Nat.lt_or_ge j n with q1 | q1
                · exact q1
                · exact absurd ((nI_leI (by omega) (by omega)).mpr q1) q3
              rw [ix6, ix6]
              refine ok_in (vp_in_nI (by omega) (by decide)) (ok_nm (fun y hy => ?_))
              refine ok_in (vp_in_nI (by omega) (by decide)) (ok_in (vp_in_nI (by omega) (by decide)) (ok_in (vp_in_nI (by omega) (by decide)) ?_))
              refine ok_nmr (nI (j + 1)) (nI_1 ..) ?_
              rw [nI_clamp (by omega)] at hy
              rw [nI_clamp (by omega), nI_clamp (by omega)]
              subst hy
              refine ih2 _ _ ⟨j + 1, hj2, rfl, ?_, ?_⟩ (by rw [nI_clamp (by omega), nI_clamp (by omega)]; omega)
              · intro a ha
                by_cases q5 : a = j
                · subst q5
                  by_cases q6 : i = c
                  · subst q6
                    rw [pk_us, x2 _ (fun a' ha' => by omega)]; exact ⟨rfl, rfl⟩
                  · rw [pk_us, pk_un (show 6 * i + a ≠ 6 * c + a by omega), pk_us, x2 (6 * c + a) (fun a' ha' => by omega), x2 (6 * i + a) (fun a' ha' => by omega)]; exact ⟨rfl, rfl⟩
                · obtain ⟨b1, b2⟩ := x1 a (by omega)
                  rw [pk_un (show 6 * i + a ≠ 6 * c + j by omega), pk_un (show 6 * i + a ≠ 6 * i + j by omega), pk_un (show 6 * c + a ≠ 6 * c + j by omega), pk_un (show 6 * c + a ≠ 6 * i + j by omega)]
                  exact ⟨b1, b2⟩
              · intro q hq
                obtain ⟨b1, b2⟩ := hq j (by omega)
                rw [pk_un b2, pk_un b1]
                exact x2 q (fun a ha => hq a (by omega))
      · intro k92 h92
        refine lo1_F (fun v => ∃ i : Nat, c ≤ i ∧ i ≤ n ∧ v = nI i ∧ ∀ k, c ≤ k → k < i → ev w (6 * k + c) = 0) (fun v => n - v.toNatClampNeg) ?_ ⟨c, Nat.le_refl c, hc, rfl, fun k h1 h2 => absurd h1 (by omega)⟩ (by omega)
        rintro ks v ⟨i, hci, hin, rfl, hz⟩ ih2
        refine ok_if (fun q2 => ?_) (fun q2 => ?_)
        · have e : i = n := by
            have := (nI_leI (by omega) (by omega)).mp q2
            omega
          exact h92 i hci hin hz (fun hh => absurd hh (by omega))
        · have hi2 : i < n := by
            rcases Nat.lt_or_ge i n with q1 | q1
            · exact q1
            · exact absurd ((nI_leI (by omega) (by omega)).mpr q1) q2
          rw [ix6]
          refine ok_in (vp_in_nI (by omega) (by decide)) ?_
          obtain ⟨s1, s2⟩ := hPw i c hi2 hlt
          rw [nI_clamp (by omega), s1]
          refine ok_if (fun q3 => ?_) (fun q3 => ?_)
          · refine ok_nmr (nI (i + 1)) (nI_1 ..) ?_
            refine ih2 _ ⟨i + 1, by omega, hi2, rfl, fun k h1 h2 => ?_⟩ (by rw [nI_clamp (by omega), nI_clamp (by omega)]; omega)
            by_cases q4 : k = i
            · rw [q4]; exact (nI_eq0 (by omega)).mp q3
            · exact hz k h1 (by omega)
          · exact h92 i hci hin hz (fun _ e => q3 ((nI_eq0 (by omega)).mpr e))
  · intro k58 h58
    refine lo2_F (fun v w => ∃ a : Nat, a ≤ n ∧ v = nI a ∧ ∀ i j, i < a → j < n → w (6 * i + j) = sm (12 * rr i + t j)) (fun v _ => n - v.toNatClampNeg) ?_ ⟨0, Nat.zero_le n, nI_0.symm, fun i _ hi => absurd hi (by omega)⟩ (by omega)
    rintro ks v w ⟨a, ha, rfl, w1⟩ ih
    refine ok_if (fun q => ?_) (fun q => ?_)
    · have e : a = n := by
        have := (nI_leI (by omega) (by omega)).mp q
        omega
      subst e
      have ee : ∀ i j, i < a → j < a → ev w (6 * i + j) = ev sm (12 * rr i + t j) := fun i j hi hj => by unfold ev; rw [w1 i j hi hj]
      refine h58 w (fun i j hi hj => ?_) (Sm_0 hp (fun i j hi hj => ?_))
      · rw [ee i j hi hj, w1 i j hi hj]; exact hs i hi (t j) (htn j hj)
      · rw [ee i j hi hj, Int.sub_self]; exact Int.dvd_zero _
    · have hlt : a < n := by
        rcases Nat.lt_or_ge a n with q1 | q1
        · exact q1
        · exact absurd ((nI_leI (by omega) (by omega)).mpr q1) q
      refine ok_jn (fun k52 => ∀ x : Nat → Int32, (∀ j, j < n → x (6 * a + j) = sm (12 * rr a + t j)) → (∀ q, (∀ j, j < n → q ≠ 6 * a + j) → x q = w q) → ok (k52 x) Q) ?_ ?_
      · intro x x1 x2
        refine ok_nmr (nI (a + 1)) (nI_1 ..) ?_
        refine ih _ _ ⟨a + 1, hlt, rfl, ?_⟩ (by rw [nI_clamp (by omega), nI_clamp (by omega)]; omega)
        intro i j hi hj
        by_cases q3 : i = a
        · subst q3; exact x1 j hj
        · rw [x2 _ (fun p hp => by omega)]; exact w1 i j (by omega) hj
      · intro k52 h52
        refine lo2_F (fun v x => ∃ b : Nat, b ≤ n ∧ v = nI b ∧ (∀ j, j < b → x (6 * a + j) = sm (12 * rr a + t j)) ∧ ∀ q, (∀ j, j < n → q ≠ 6 * a + j) → x q = w q) (fun v _ => n - v.toNatClampNeg) ?_ ⟨0, Nat.zero_le n, nI_0.symm, fun i hi => absurd hi (by omega), fun _ _ => rfl⟩ (by omega)
        rintro ks2 v x ⟨b, hb, rfl, x1, x2⟩ ih2
        refine ok_if (fun q2 => ?_) (fun q2 => ?_)
        · have e : b = n := by
            have := (nI_leI (by omega) (by omega)).mp q2
            omega
          subst e
          exact h52 x x1 x2
        · have hb2 : b < n := by
            rcases Nat.lt_or_ge b n with q1 | q1
            · exact q1
            · exact absurd ((nI_leI (by omega) (by omega)).mpr q1) q2
          obtain ⟨f1, f2⟩ := hfr a hlt
          obtain ⟨f3, f4⟩ := hfc b hb2
          refine ok_in (vp_in_nI (by omega) (by decide)) (ok_in (vp_in_nI (by omega) (by decide)) ?_)
          rw [nI_clamp (n := a) (by omega), nI_clamp (n := b) (by omega), f1, f3, ix12, ix6]
          refine ok_in (vp_in_nI (by omega) (by decide)) (ok_in (vp_in_nI (by omega) (by decide)) ?_)
          refine ok_nmr (nI (b + 1)) (nI_1 ..) ?_
          rw [nI_clamp (by omega), nI_clamp (by omega)]
          refine ih2 _ _ ⟨b + 1, hb2, rfl, ?_, ?_⟩ (by rw [nI_clamp (by omega), nI_clamp (by omega)]; omega)
          · intro j hj
            by_cases q5 : j = b
            · subst q5; rw [pk_us]
            · rw [pk_un (by omega)]; exact x1 j (by omega)
          · intro q hq
            rw [pk_un (hq b hb2)]
            exact x2 q hq
