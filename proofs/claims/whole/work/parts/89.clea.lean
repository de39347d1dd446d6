/-! the class's learn, and that both studies are one -/
theorem kap_inj : ∀ S T, S < 4096 → T < 4096 → kap S = kap T → S = T := by
  intro S T hS hT h
  have h1 := rv_at (N := 12) (Nat.le_refl _) (show S < 2 ^ 12 from hS)
  have h2 := rv_at (N := 12) (Nat.le_refl _) (show T < 2 ^ 12 from hT)
  unfold kap at h
  have h3 := h1.1
  have h4 := h2.1
  have e : rv 12 S = rv 12 T := by omega
  rw [← h1.2.1, ← h2.2.1, e]
theorem fs_ch {N : Nat} {os : Nat → Nat} {cv : Nat → Int32} (M : Nat) : (fs N os cv M = 0 ∧ ∀ a, a < M → os a < 2 ^ N → cv (os a) = 0) ∨ ∃ a, a < M ∧ os a < 2 ^ N ∧ cv (os a) ≠ 0 ∧ fs N os cv M = cv (os a) ∧ ∀ b, b < a → os b < 2 ^ N → cv (os b) = 0 := by
  induction M with
  | zero => exact Or.inl ⟨rfl, fun a ha => absurd ha (by omega)⟩
  | succ M ih =>
    simp only [fs]
    rcases ih with ⟨h1, h2⟩ | ⟨a, h1, h2, h3, h4, h5⟩
    · by_cases q : os M < 2 ^ N
      · rw [if_pos q, if_pos h1]
        by_cases q2 : cv (os M) = 0
        · refine Or.inl ⟨q2, fun a ha hN => ?_⟩
          by_cases q3 : a = M
          · rw [q3]; exact q2
          · exact h2 a (by omega) hN
        · exact Or.inr ⟨M, by omega, q, q2, rfl, h2⟩
      · rw [if_neg q]
        refine Or.inl ⟨h1, fun a ha hN => ?_⟩
        by_cases q3 : a = M
        · rw [q3] at hN; exact absurd hN q
        · exact h2 a (by omega) hN
    · refine Or.inr ⟨a, by omega, h2, h3, ?_, h5⟩
      have : fs N os cv M ≠ 0 := by rw [h4]; exact h3
      rw [if_neg this, h4]
      split <;> rfl
theorem fs_key {N : Nat} {osC osR : Nat → Nat} {cv : Nat → Int32} (hN : N ≤ 12) (hC : Od (2 ^ N) kap osC) (hR : Od 4096 kap osR) : fs N osC cv (2 ^ N) = fs N osR cv 4096 := by
  have hM := p2_12 hN
  have sC := inj_sur hC.1 (Od_inj hC)
  have sR := inj_sur hR.1 (Od_inj hR)
  rcases fs_ch (N := N) (os := osC) (cv := cv) (2 ^ N) with ⟨h1, h2⟩ | ⟨a, h1, h2, h3, h4, h5⟩
  · rcases fs_ch (N := N) (os := osR) (cv := cv) 4096 with ⟨g1, g2⟩ | ⟨b, g1, g2, g3, g4, g5⟩
    · rw [h1, g1]
    · exfalso
      obtain ⟨a, a1, a2⟩ := sC _ g2
      have := h2 a a1 (by rw [a2]; exact g2)
      rw [a2] at this
      exact g3 this
  · rcases fs_ch (N := N) (os := osR) (cv := cv) 4096 with ⟨g1, g2⟩ | ⟨b, g1, g2, g3, g4, g5⟩
    · exfalso
      obtain ⟨b, b1, b2⟩ := sR (osC a) (by omega)
      have := g2 b b1 (by rw [b2]; exact h2)
      rw [b2] at this
      exact h3 this
    · rw [h4, g4]
      congr 1
      obtain ⟨a', a1, a2⟩ := sC _ g2
      obtain ⟨b', b1, b2⟩ := sR (osC a) (by omega)
      have e1 : ¬ a' < a := fun h => by
        have := h5 a' h (by rw [a2]; exact g2)
        rw [a2] at this; exact g3 this
      have e2 : ¬ b' < b := fun h => by
        have := g5 b' h (by rw [b2]; exact h2)
        rw [b2] at this; exact h3 this
      apply kap_inj _ _ (by omega) (by omega)
      rcases Nat.lt_trichotomy (kap (osC a)) (kap (osR b)) with q | q | q
      · rw [← b2] at q
        exact absurd ((Od_lt hR b1 g1).mp q) e2
      · exact q
      · rw [← a2] at q
        exact absurd ((Od_lt hC a1 h1).mp q) e1
theorem fs_sc {N M : Nat} {os : Nat → Nat} {cv cv' : Nat → Int32} {d : Int32} (hd : d = 1 ∨ d = -1) (h : ∀ S, S < 2 ^ N → cv' S = d * cv S) : fs N os cv' M = d * fs N os cv M := by
  have hz : ∀ x : Int32, d * x = 0 ↔ x = 0 := by
    intro x
    constructor
    · intro h
      have : d * (d * x) = 0 := by rw [h, Int32.mul_zero]
      rw [← Int32.mul_assoc] at this
      have hdd : d * d = 1 := by rcases hd with rfl | rfl <;> decide
      rw [hdd, Int32.one_mul] at this
      exact this
    · intro h; rw [h, Int32.mul_zero]
  induction M with
  | zero => show (0 : Int32) = d * 0; rw [Int32.mul_zero]
  | succ M ih =>
    simp only [fs]
    rw [ih]
    by_cases q : os M < 2 ^ N
    · rw [if_pos q, if_pos q]
      by_cases q2 : fs N os cv M = 0
      · rw [if_pos q2, if_pos ((hz _).mpr q2), h _ q]
      · rw [if_neg q2, if_neg (fun e => q2 ((hz _).mp e))]
    · rw [if_neg q, if_neg q]
def cvC (m N R : Nat) (rs : List (Nat → Int)) (S : Nat) : Int32 := if S < 2 ^ N ∧ cn S = R then (if m = 0 then sI (wl N rs S) else if (m : Int) ∣ wl N rs S then 0 else 1) else 0
theorem cvC_0 {m N R : Nat} {rs : List (Nat → Int)} {S : Nat} (h : cn S ≠ R) : cvC m N R rs S = 0 := by
  unfold cvC; rw [if_neg (fun q => h q.2)]
theorem cvC_ne {m N R : Nat} {rs : List (Nat → Int)} {S : Nat} (hS : S < 2 ^ N) (hc : cn S = R) : cvC m N R rs S ≠ 0 ↔ ¬ (m : Int) ∣ wl N rs S := by
  unfold cvC
  rw [if_pos ⟨hS, hc⟩]
  by_cases q : m = 0
  · subst q
    rw [if_pos rfl, Ne, sI_0]
    exact not_congr z_dvd.symm
  · rw [if_neg q]
    by_cases q2 : (m : Int) ∣ wl N rs S
    · rw [if_pos q2]; exact ⟨fun h => absurd rfl h, fun h => absurd q2 h⟩
    · rw [if_neg q2]; exact ⟨fun _ => q2, fun _ => by decide⟩
theorem cvC_tv {m N R : Nat} {rs : List (Nat → Int)} (S : Nat) : tv (cvC m N R rs S) := by
  unfold cvC tv sI
  split
  · split
    · split
      · exact Or.inl rfl
      · split
        · exact Or.inr (Or.inr rfl)
        · exact Or.inr (Or.inl rfl)
    · split
      · exact Or.inl rfl
      · exact Or.inr (Or.inl rfl)
  · exact Or.inl rfl
/-- what the class's study of a table holds -/
def Lc (m N rows : Nat) (A : Nat → Nat → Int) (R : Nat) (cv : Nat → Int32) (os ρ : Nat → Nat) (rk sgn mem sst df : Nat → Int32) : Prop :=
  (∃ rs, CT m N rows R A rs ∧ cv = cvC m N R rs) ∧ Od (2 ^ N) kap os ∧ (∀ S, S < 2 ^ N → rk S = nI (ρ S) ∧ IsRk N cv S (ρ S)) ∧ (∀ S, S < 2 ^ N → cn S = R → sgn S = cv S * fs N os cv (2 ^ N)) ∧
  (∀ k, k ≤ 4 → sst k = nI (skf (2 ^ N) (fun k a => Kb N R ρ k (os a)) k)) ∧ (∀ k a, k < 4 → a < 2 ^ N → Kb N R ρ k (os a) = true → mem (skf (2 ^ N) (fun k a => Kb N R ρ k (os a)) k + cnt a (fun b => Kb N R ρ k (os b))) = nI (os a)) ∧ skf (2 ^ N) (fun k a => Kb N R ρ k (os a)) 4 ≤ 6868 ∧
  (∀ a b, a < 13 → b < 13 → df (a * 13 + b) = nI (cnt (2 ^ N) (dfb R ρ a b))) ∧ RF N R ρ ∧ R ≤ N
theorem CM_cv {m N R : Nat} {lo mi hi : Nat → Int64} {rs : List (Nat → Int)} (h : CM m N R lo mi hi (wl N rs)) {S : Nat} (hS : S < 2 ^ N) (hc : cn S = R) : sI (mval lo mi hi S) = cvC m N R rs S := by
  have hz := CM_z h hS hc
  obtain ⟨h1, h2, h3⟩ := h S hS hc
  unfold cvC
  rw [if_pos ⟨hS, hc⟩]
  by_cases q : m = 0
  · rw [if_pos q, h2 q]
  · rw [if_neg q]
    by_cases q2 : (m : Int) ∣ wl N rs S
    · rw [if_pos q2]; exact hz.mpr q2
    · rw [if_neg q2]
      obtain ⟨a1, a2, a3, a4⟩ := h3 q
      obtain ⟨d1, d2, d3, d4⟩ := h1
      have hne : ¬ sI (mval lo mi hi S) = 0 := fun e => q2 (hz.mp e)
      rw [sI_0] at hne
      unfold sI
      rw [if_neg hne, if_neg]
      unfold mval
      rw [a1, a2]; omega
theorem fs_n0 {N : Nat} {os : Nat → Nat} {cv : Nat → Int32} {M : Nat} (hs : ∀ S, S < 2 ^ N → ∃ a, a < M ∧ os a = S) (hne : ∃ S, S < 2 ^ N ∧ cv S ≠ 0) : fs N os cv M ≠ 0 := by
  rcases fs_ch (N := N) (os := os) (cv := cv) M with ⟨h1, h2⟩ | ⟨a, h1, h2, h3, h4, h5⟩
  · obtain ⟨S, s1, s2⟩ := hne
    obtain ⟨a, a1, a2⟩ := hs S s1
    have := h2 a a1 (by rw [a2]; exact s1)
    rw [a2] at this
    exact absurd this s2
  · rw [h4]; exact h3
theorem tv_n0 {x y : Int32} (hx : tv x) (hy : tv y) (h : y ≠ 0) : x * y = 0 ↔ x = 0 := by
  unfold tv at *
  rcases hx with rfl | rfl | rfl <;> rcases hy with rfl | rfl | rfl <;> first | exact absurd rfl h | decide
theorem cl_okQ {Q : (Int32 × Int32 × (Nat → Int32) × (Nat → Int32) × (Nat → Int32) × (Nat → Int32) × (Nat → Int32) × (Nat → Int64) × (Nat → Int64) × (Nat → Int64)) → Prop} {rk0 sg0 mem0 sst0 df0 nb sets starts : Nat → Int32} {lo mi hi : Nat → Int64} {m N rows : Nat} (hm : FdP m) (hN : N ≤ 12) (hr : rows ≤ 12) (hO : OX N sets starts) (hnb : ∀ r f, r < rows → f < N → -999 ≤ (nb (r * 12 + f)).toInt ∧ (nb (r * 12 + f)).toInt ≤ 999)
    (hQ : ∀ (R : Nat) (cv : Nat → Int32) (os ρ : Nat → Nat) (rk sgn mem sst df : Nat → Int32) (lo' mi' hi' : Nat → Int64), Lc m N rows (fun r f => (nb (r * 12 + f)).toInt) R cv os ρ rk sgn mem sst df → Q (nI N, nI R, rk, sgn, mem, sst, df, lo', mi', hi')) :
    ok (f_S_learn 4096 rk0 4096 sg0 6868 mem0 5 sst0 169 df0 (nI m) (nI rows) (nI N) 144 nb 4096 sets 14 starts 4096 lo 4096 mi 4096 hi) Q := by
  have hM := p2_12 hN
  obtain ⟨-, os, st, hOC, hOd⟩ := hO
  unfold f_S_learn
  refine ok_b4 (tk_okQ (Q := fun r => ∃ (k : Nat) (rs : List (Nat → Int)), r.1 = nI k ∧ CT m N rows k (fun r f => (nb (r * 12 + f)).toInt) rs ∧ CM m N k r.2.1 r.2.2.1 r.2.2.2 (wl N rs)) hm hN hr hOC hnb (fun k lo' mi' hi' rs h1 h2 => ⟨k, rs, rfl, h1, h2⟩)) ?_
  rintro r1 u2 u3 u4 ⟨R, rs, e1, hCT, hCM⟩
  dsimp only at e1 hCM
  subst e1
  have hRN := hCT.2.1
  generalize hcv : cvC m N R rs = cv
  have hcv0 : ∀ S, S < 2 ^ N → cn S ≠ R → cv S = 0 := fun S _ h => by rw [← hcv]; exact cvC_0 h
  have hne : ∃ S, S < 2 ^ N ∧ cv S ≠ 0 := by
    obtain ⟨-, -, -, -, S, s1, s2, s3⟩ := hCT
    exact ⟨S, s1, by rw [← hcv]; exact (cvC_ne s1 s2).mpr s3⟩
  have htv : ∀ S, tv (cv S) := fun S => by rw [← hcv]; exact cvC_tv S
  have hF0 : Fr N cv 0 := by
    obtain ⟨S, h1, h2⟩ := hne
    exact ⟨S, h1, h2, fun e he => by rw [Nat.zero_testBit] at he; cases he⟩
  have hfs := fs_n0 (cv := cv) (inj_sur hOd.1 (Od_inj hOd)) hne
  refine ok_b1 (lsg_ok (cv := cv) hN hRN hOC (fun S hS hc => ⟨(hCM S hS hc).1, by rw [← hcv]; exact CM_cv hCM hS hc⟩) hcv0) ?_
  intro u6 h6
  refine ok_b1 (mk_ok (cv := cv) hN hRN (fun S hS hc => by rw [h6 S hS hc]; exact tv_n0 (htv S) (fs_tv htv _) hfs) hcv0) ?_
  intro u8 h8
  refine ok_b1 (lr_ok hN hF0 h8) ?_
  rintro u10 ⟨ρ, h10⟩
  have hRF := IsRk_RF hN (fun S hS => (h10 S hS).2) hcv0 hne
  have hrk12 : ∀ T, T < 2 ^ N → u10 T = nI (ρ T) ∧ ρ T ≤ 12 := fun T hT => ⟨(h10 T hT).1, by have := hRF.1 T hT; have := cn_le T; omega⟩
  refine ok_b1 (ld_ok hN (by omega) (fun T hT => (h10 T hT).1) hRF) ?_
  intro u12 h12
  have hsk : skf (2 ^ N) (fun k a => Kb N R ρ k (os a)) 4 ≤ 6868 := by
    have hp : ∀ k, cnt (2 ^ N) (fun a => Kb N R ρ k (os a)) = cnt (2 ^ N) (Kb N R ρ k) := fun k => cnt_perm (P := Kb N R ρ k) hOd.1 (Od_inj hOd)
    simp only [skf]
    rw [hp, hp, hp, hp]
    have a0 := Kb_924 (kind := 0) hN hRF (by decide)
    have a1 := Kb_924 (kind := 1) hN hRF (by decide)
    have a2 := Kb_924 (kind := 2) hN hRF (by decide)
    have a3 := cnt_bd (f := Kb N R ρ 3) (N := 2 ^ N)
    omega
  refine ok_b2 (lm_ok hN (by omega) hrk12 hOC.1 hsk) ?_
  rintro u14 u15 ⟨h14, h15⟩
  dsimp only at h14 h15
  refine ok_some (hQ R cv os ρ _ _ _ _ _ _ _ _ ⟨⟨rs, hCT, hcv.symm⟩, hOd, h10, h6, h14, h15, hsk, h12, hRF, hRN⟩)
/-- one study -/
theorem same {m N rows t Rc Rr : Nat} {A Ac : Nat → Nat → Int} {cc cr : Nat → Int32} {osC osR ρ : Nat → Nat} {rk sgn mem sst df rkR sgR : Nat → Int32} (hm : FdP m) (hN : N ≤ 12) (hA : ∀ i j, i < rows → j < N → (m : Int) ∣ A i j - Ac i j) (hR : Od 4096 kap osR) (hc : Lc m N rows Ac Rc cc osC ρ rk sgn mem sst df) (hr : Lr m N rows t A osR Rr cr rkR sgR) : Rc = Rr ∧ (∀ S, S < 2 ^ N → rkR (4096 * t + S) = nI (ρ S)) ∧ (m = 0 → ∀ S, S < 2 ^ N → cn S = Rc → sgR (4096 * t + S) = sgn S) ∧ (m = 0 → Clo N ρ) := by
  obtain ⟨⟨rs, hCT, rfl⟩, hOd, h1, h2, -, -, -, -, -, -⟩ := hc
  obtain ⟨⟨pv, E, hRT, rfl⟩, g1, ρ', g2⟩ := hr
  obtain ⟨b1, b2, b3⟩ := bridge hm hN hRT hCT hA
  subst b1
  obtain ⟨pp1, pp2, pp3⟩ := RT_P hm hN hRT
  have hnz : ∀ S, S < 2 ^ N → cn S = Rc → ((m : Int) ∣ wl N rs S ↔ (m : Int) ∣ wl N (ol E Rc) S) := by
    intro S hS hcS
    have h3 := b2 S hS hcS
    constructor
    · intro hd
      have h4 : (m : Int) ∣ wl N rs (msk N (inP Rc pv)) * wl N (ol E Rc) S := by
        have := Int.dvd_sub (Int.dvd_mul_of_dvd_right (b := wl N (ol E Rc) (msk N (inP Rc pv))) hd) h3
        rwa [show ∀ x y : Int, x - (x - y) = y by intros; omega] at this
      exact fd_canc hm b3 h4
    · intro hd
      have h4 : (m : Int) ∣ wl N (ol E Rc) (msk N (inP Rc pv)) * wl N rs S := by
        have := Int.dvd_add h3 (Int.dvd_mul_of_dvd_right (b := wl N rs (msk N (inP Rc pv))) hd)
        rwa [show ∀ x y : Int, x - y + y = x by intros; omega] at this
      exact fd_canc hm pp3 h4
  have hz : ∀ S, S < 2 ^ N → (cvC m N Rc rs S ≠ 0 ↔ cvR m N Rc E S ≠ 0) := by
    intro S hS
    by_cases hcS : cn S = Rc
    · rw [cvC_ne hS hcS, cvR_ne hS hcS, hnz S hS hcS]
    · rw [cvC_0 hcS, cvR_0 hcS]
  have hFr : ∀ S, Fr N (cvC m N Rc rs) S ↔ Fr N (cvR m N Rc E) S := by
    intro S
    constructor
    · rintro ⟨T, t1, t2, t3⟩; exact ⟨T, t1, (hz T t1).mp t2, t3⟩
    · rintro ⟨T, t1, t2, t3⟩; exact ⟨T, t1, (hz T t1).mpr t2, t3⟩
  have hRk : ∀ S k, IsRk N (cvC m N Rc rs) S k ↔ IsRk N (cvR m N Rc E) S k := by
    intro S k
    unfold IsRk
    simp only [hFr]
  refine ⟨rfl, fun S hS => ?_, fun m0 S hS hcS => ?_, fun m0 => ?_⟩
  · rw [(g2 S hS).1, IsRk_un ((hRk S _).mp (h1 S hS).2) (g2 S hS).2]
  · subst m0
    -- the common sign
    have hsI : ∀ x y : Int, sI (x * y) = sI x * sI y := by
      intro x y
      unfold sI
      by_cases qx : x = 0
      · subst qx; rw [Int.zero_mul, if_pos rfl, Int32.zero_mul]
      · by_cases qy : y = 0
        · subst qy; rw [Int.mul_zero, if_pos rfl, Int32.mul_zero]
        · have hxy : x * y ≠ 0 := Int.mul_ne_zero qx qy
          rw [if_neg qx, if_neg qy, if_neg hxy]
          by_cases px : x < 0 <;> by_cases py : y < 0
          · have : 0 < x * y := Int.mul_pos_of_neg_of_neg px py
            rw [if_pos px, if_pos py, if_neg (by omega)]; decide
          · have : x * y < 0 := Int.mul_neg_of_neg_of_pos px (by omega)
            rw [if_pos px, if_neg py, if_pos this]; decide
          · have : x * y < 0 := Int.mul_neg_of_pos_of_neg (by omega) py
            rw [if_neg px, if_pos py, if_pos this]; decide
          · have : 0 < x * y := Int.mul_pos (by omega) (by omega)
            rw [if_neg px, if_neg py, if_neg (by omega)]; decide
    have hun : ∀ x : Int, x ≠ 0 → sI x = 1 ∨ sI x = -1 := by
      intro x hx
      unfold sI
      rw [if_neg hx]
      split
      · exact Or.inr rfl
      · exact Or.inl rfl
    have wP : wl N (ol E Rc) (msk N (inP Rc pv)) ≠ 0 := fun e => pp3 (z_dvd.mpr e)
    have vP : wl N rs (msk N (inP Rc pv)) ≠ 0 := fun e => b3 (z_dvd.mpr e)
    have u1 := hun _ wP
    have u2 := hun _ vP
    have u3 := hun _ (tri_n0 Rc)
    generalize hd : sI (wl N (ol E Rc) (msk N (inP Rc pv))) * sI (wl N rs (msk N (inP Rc pv))) * sI (tri Rc) = d
    have hd1 : d = 1 ∨ d = -1 := by
      rw [← hd]
      rcases u1 with q | q <;> rcases u2 with q2 | q2 <;> rcases u3 with q3 | q3 <;> rw [q, q2, q3] <;> decide
    have hdd : d * d = 1 := by rcases hd1 with rfl | rfl <;> decide
    have hcc : ∀ S, S < 2 ^ N → cvC 0 N Rc rs S = d * cvR 0 N Rc E S := by
      intro S hS
      by_cases hcS : cn S = Rc
      · have h3 := z_dvd.mp (b2 S hS hcS)
        have h4 : wl N (ol E Rc) (msk N (inP Rc pv)) * wl N rs S = wl N rs (msk N (inP Rc pv)) * wl N (ol E Rc) S := by omega
        have h5 : sI (wl N (ol E Rc) (msk N (inP Rc pv))) * sI (wl N rs S) = sI (wl N rs (msk N (inP Rc pv))) * sI (wl N (ol E Rc) S) := by rw [← hsI, ← hsI, h4]
        unfold cvC cvR
        rw [if_pos ⟨hS, hcS⟩, if_pos rfl, if_pos ⟨hS, hcS⟩, if_pos rfl, hsI, ← hd]
        generalize sI (wl N rs S) = a at *
        generalize sI (wl N (ol E Rc) S) = b at *
        rcases u1 with q | q <;> rcases u2 with q2 | q2 <;> rcases u3 with q3 | q3 <;> rw [q, q2] at h5 <;> rw [q, q2, q3] <;> grind
      · rw [cvC_0 hcS, cvR_0 hcS, Int32.mul_zero]
    rw [g1 S hS, if_pos rfl, h2 S hS hcS, fs_key hN hOd hR, fs_sc hd1 hcc, hcc S hS]
    generalize cvR 0 N Rc E S = a
    generalize fs N osR (cvR 0 N Rc E) 4096 = b
    have : d * a * (d * b) = (d * d) * (a * b) := by grind
    rw [this, hdd, Int32.one_mul]
  · subst m0
    refine Clo_of (rs := rs) (cv := cvC 0 N Rc rs) hN (fun S hS hne => ?_) (fun S hS hne => ?_) (fun S hS => (h1 S hS).2)
    · by_cases hcS : cn S = Rc
      · exact fun e => (cvC_ne hS hcS).mp hne (z_dvd.mpr e)
      · exact absurd (cvC_0 hcS) hne
    · by_cases hcS : cn S = Rc
      · exact (cvC_ne hS hcS).mpr (fun e => hne (z_dvd.mp e))
      · exfalso
        apply hne
        exact wl_deg hS (by rw [cn_N hS hN, hCT.1]; exact hcS)
