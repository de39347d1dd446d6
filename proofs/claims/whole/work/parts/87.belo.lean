/-! the reference's below -/
theorem dto_ok {sg els so0 : Nat → Int32} {N t F G : Nat} (hN : N ≤ 12) (ht : t < 4) (hF : F < 2 ^ N) (hG : G < 2 ^ N) (hel : els t = nI N) (hc : cnt N F.testBit + cnt N G.testBit ≤ 13) : ok (f_R_determinantOf 16384 sg 4 els 13 so0 (nI t) (nI F) (nI G)) (fun r => r.1 = psI (iv N F G) * sg (4096 * t + (F ||| G))) := by
  have hM := p2_12 hN
  unfold f_R_determinantOf
  refine ok_jn (fun k69 => ∀ (w : Nat → Int32) (val : Nat → Nat), (∀ i, i < cnt N F.testBit + cnt N G.testBit → w i = nI (val i) ∧ val i < 2 ^ 31) → (∀ x, x < N → F.testBit x = true → val (cnt x F.testBit) = x) → (∀ y, y < N → G.testBit y = true → val (cnt N F.testBit + cnt y G.testBit) = y) → ok (k69 (nI (cnt N F.testBit + cnt N G.testBit)) w) (fun r => r.1 = psI (iv N F G) * sg (4096 * t + (F ||| G)))) ?_ ?_
  · intro w val h1 h2 h3
    have hor : F ||| G < 2 ^ N := Nat.or_lt_two_pow hF hG
    rw [nI_or, ix4096]
    refine ok_in (vp_in_nI (by omega) (by decide)) ?_
    refine ok_nmr (sg (4096 * t + (F ||| G))) (by rw [nI_clamp (by omega)]) ?_
    refine ok_b1 (iev_ok hc h1) ?_
    rintro r5 rfl
    rw [trn_iv h2 h3]
    unfold psI
    by_cases q : iv N F G % 2 = 0
    · rw [if_pos q, if_pos q]
      exact ok_if (fun q2 => absurd q2 (by decide)) (fun _ => ok_some (by show _ = 1 * _; rw [Int32.one_mul]))
    · rw [if_neg q, if_neg q]
      refine ok_if (fun _ => ok_some ?_) (fun q2 => absurd rfl q2)
      show - _ = -1 * _
      rw [Int32.neg_mul, Int32.one_mul]
  · intro k69 h69
    refine lo3_F (fun v x w => (v = 0 ∧ x = 0) ∨ (v = 1 ∧ x = nI (cnt N F.testBit) ∧ (∀ e, e < N → F.testBit e = true → w (cnt e F.testBit) = nI e)) ∨ (v = 2 ∧ x = nI (cnt N F.testBit + cnt N G.testBit) ∧ (∀ e, e < N → F.testBit e = true → w (cnt e F.testBit) = nI e) ∧ ∀ e, e < N → G.testBit e = true → w (cnt N F.testBit + cnt e G.testBit) = nI e)) (fun v _ _ => 2 - v.toNatClampNeg) ?_ (Or.inl ⟨rfl, rfl⟩) (by omega)
    rintro kr v x w hI ih
    rcases hI with ⟨rfl, rfl⟩ | ⟨rfl, rfl, g1⟩ | ⟨rfl, rfl, g1, g2⟩
    · refine ok_if (fun q => absurd q (by decide)) (fun _ => ?_)
      refine ok_jn (fun k63 => ∀ w' : Nat → Int32, (∀ e, e < N → F.testBit e = true → w' (cnt e F.testBit) = nI e) → ok (k63 (nI (cnt N F.testBit)) w') (fun r => r.1 = psI (iv N F G) * sg (4096 * t + (F ||| G)))) ?_ ?_
      · intro w' hw'
        refine ok_nmr 1 rfl ?_
        exact ih _ _ _ (Or.inr (Or.inl ⟨rfl, rfl, hw'⟩)) (by decide)
      · intro k63 h63
        refine lo3_F (fun v x w' => ∃ e : Nat, e ≤ N ∧ v = nI e ∧ x = nI (cnt e F.testBit) ∧ ∀ f, f < e → F.testBit f = true → w' (cnt f F.testBit) = nI f) (fun v _ _ => N - v.toNatClampNeg) ?_ ⟨0, Nat.zero_le _, nI_0.symm, nI_0.symm, fun f hf => absurd hf (by omega)⟩ (by omega)
        rintro ks v x w' ⟨e, he, rfl, rfl, e1⟩ ih2
        refine ok_in (vp_in_nI ht (by decide)) ?_
        rw [nI_clamp (by omega), hel]
        refine ok_if (fun q => ?_) (fun q => ?_)
        · have e2 : e = N := by
            have := (nI_leI (by omega) (by omega)).mp q
            omega
          subst e2
          exact h63 w' e1
        · have hlt : e < N := by
            rcases Nat.lt_or_ge e N with q1 | q1
            · exact q1
            · exact absurd ((nI_leI (by omega) (by omega)).mpr q1) q
          refine ok_jn (fun k36 => ok (k36 (nI F)) (fun r => r.1 = psI (iv N F G) * sg (4096 * t + (F ||| G)))) ?_ (fun k36 h36 => ok_if (fun _ => h36) (fun q2 => absurd rfl q2))
          have hcd : cnt (e + 1) F.testBit = cnt e F.testBit + (if F.testBit e = true then 1 else 0) := rfl
          refine ok_jn (fun k57 => ∀ w2 : Nat → Int32, (∀ f, f < e + 1 → F.testBit f = true → w2 (cnt f F.testBit) = nI f) → ok (k57 (nI (cnt (e + 1) F.testBit)) w2) (fun r => r.1 = psI (iv N F G) * sg (4096 * t + (F ||| G)))) ?_ ?_
          · intro w2 hw2
            refine ok_nmr (nI (e + 1)) (nI_1 ..) ?_
            exact ih2 _ _ _ ⟨e + 1, hlt, rfl, rfl, hw2⟩ (by rw [nI_clamp (by omega), nI_clamp (by omega)]; omega)
          · intro k57 h57
            have hbit := nI_bit (show F < 2 ^ 31 by omega) (show e < 31 by omega)
            have hce := cnt_bd (f := F.testBit) (N := e)
            refine ok_if (fun q2 => ?_) (fun q2 => ?_)
            · have hb := hbit.mp q2
              refine ok_in (vp_in_nI (by omega) (by decide)) ?_
              refine ok_nmr (nI (cnt (e + 1) F.testBit)) (by rw [nI_1, hcd, if_pos hb]) ?_
              rw [nI_clamp (by omega)]
              refine h57 _ (fun f hf hfb => ?_)
              by_cases q3 : f = e
              · subst q3; rw [pk_us]
              · have := cnt_lt (show f < e by omega) hfb
                rw [pk_un (by omega)]; exact e1 f (by omega) hfb
            · have hb : ¬ F.testBit e = true := fun h => q2 (hbit.mpr h)
              rw [hcd, if_neg hb] at h57
              refine h57 w' (fun f hf hfb => ?_)
              by_cases q3 : f = e
              · rw [q3] at hfb; exact absurd hfb hb
              · exact e1 f (by omega) hfb
    · refine ok_if (fun q => absurd q (by decide)) (fun _ => ?_)
      refine ok_jn (fun k63 => ∀ w' : Nat → Int32, (∀ e, e < N → F.testBit e = true → w' (cnt e F.testBit) = nI e) → (∀ e, e < N → G.testBit e = true → w' (cnt N F.testBit + cnt e G.testBit) = nI e) → ok (k63 (nI (cnt N F.testBit + cnt N G.testBit)) w') (fun r => r.1 = psI (iv N F G) * sg (4096 * t + (F ||| G)))) ?_ ?_
      · intro w' hw' hw2
        refine ok_nmr 2 rfl ?_
        exact ih _ _ _ (Or.inr (Or.inr ⟨rfl, rfl, hw', hw2⟩)) (by decide)
      · intro k63 h63
        refine lo3_F (fun v x w' => ∃ e : Nat, e ≤ N ∧ v = nI e ∧ x = nI (cnt N F.testBit + cnt e G.testBit) ∧ (∀ e, e < N → F.testBit e = true → w' (cnt e F.testBit) = nI e) ∧ ∀ f, f < e → G.testBit f = true → w' (cnt N F.testBit + cnt f G.testBit) = nI f) (fun v _ _ => N - v.toNatClampNeg) ?_ ⟨0, Nat.zero_le _, nI_0.symm, rfl, g1, fun f hf => absurd hf (by omega)⟩ (by omega)
        rintro ks v x w' ⟨e, he, rfl, rfl, e0, e1⟩ ih2
        refine ok_in (vp_in_nI ht (by decide)) ?_
        rw [nI_clamp (by omega), hel]
        refine ok_if (fun q => ?_) (fun q => ?_)
        · have e2 : e = N := by
            have := (nI_leI (by omega) (by omega)).mp q
            omega
          subst e2
          exact h63 w' e0 e1
        · have hlt : e < N := by
            rcases Nat.lt_or_ge e N with q1 | q1
            · exact q1
            · exact absurd ((nI_leI (by omega) (by omega)).mpr q1) q
          refine ok_jn (fun k36 => ok (k36 (nI G)) (fun r => r.1 = psI (iv N F G) * sg (4096 * t + (F ||| G)))) ?_ (fun k36 h36 => ok_if (fun q2 => absurd q2 (by decide)) (fun _ => h36))
          have hcd : cnt (e + 1) G.testBit = cnt e G.testBit + (if G.testBit e = true then 1 else 0) := rfl
          refine ok_jn (fun k57 => ∀ w2 : Nat → Int32, (∀ e, e < N → F.testBit e = true → w2 (cnt e F.testBit) = nI e) → (∀ f, f < e + 1 → G.testBit f = true → w2 (cnt N F.testBit + cnt f G.testBit) = nI f) → ok (k57 (nI (cnt N F.testBit + cnt (e + 1) G.testBit)) w2) (fun r => r.1 = psI (iv N F G) * sg (4096 * t + (F ||| G)))) ?_ ?_
          · intro w2 hw0 hw2
            refine ok_nmr (nI (e + 1)) (nI_1 ..) ?_
            exact ih2 _ _ _ ⟨e + 1, hlt, rfl, rfl, hw0, hw2⟩ (by rw [nI_clamp (by omega), nI_clamp (by omega)]; omega)
          · intro k57 h57
            have hbit := nI_bit (show G < 2 ^ 31 by omega) (show e < 31 by omega)
            refine ok_if (fun q2 => ?_) (fun q2 => ?_)
            · have hb := hbit.mp q2
              have hl := cnt_lt hlt hb
              refine ok_in (vp_in_nI (by omega) (by decide)) ?_
              refine ok_nmr (nI (cnt N F.testBit + cnt (e + 1) G.testBit)) (by rw [nI_1, hcd, if_pos hb]; rfl) ?_
              rw [nI_clamp (by omega)]
              refine h57 _ (fun f hf hfb => ?_) (fun f hf hfb => ?_)
              · have := cnt_lt hf hfb
                rw [pk_un (by omega)]; exact e0 f hf hfb
              · by_cases q3 : f = e
                · subst q3; rw [pk_us]
                · have := cnt_lt (show f < e by omega) hfb
                  rw [pk_un (by omega)]; exact e1 f (by omega) hfb
            · have hb : ¬ G.testBit e = true := fun h => q2 (hbit.mpr h)
              rw [hcd, if_neg hb] at h57
              refine h57 w' e0 (fun f hf hfb => ?_)
              by_cases q3 : f = e
              · rw [q3] at hfb; exact absurd hfb hb
              · exact e1 f (by omega) hfb
    · refine ok_if (fun _ => ?_) (fun q => absurd (by decide) q)
      refine h69 w (fun i => (w i).toNatClampNeg) (fun i hi => ?_) (fun x hx hb => ?_) (fun y hy hb => ?_)
      · rcases Nat.lt_or_ge i (cnt N F.testBit) with q | q
        · obtain ⟨tt1, a1, a2⟩ := cnt_enum N F.testBit
          obtain ⟨c1, c2, c3⟩ := a1 i q
          have h5 := g1 _ c1 c2
          rw [c3] at h5
          rw [h5, nI_clamp (by omega)]; exact ⟨rfl, by omega⟩
        · obtain ⟨tt1, a1, a2⟩ := cnt_enum N G.testBit
          obtain ⟨c1, c2, c3⟩ := a1 (i - cnt N F.testBit) (by omega)
          have h5 := g2 _ c1 c2
          rw [c3, show cnt N F.testBit + (i - cnt N F.testBit) = i by omega] at h5
          rw [h5, nI_clamp (by omega)]; exact ⟨rfl, by omega⟩
      · show (w (cnt x F.testBit)).toNatClampNeg = x
        rw [g1 x hx hb, nI_clamp (by omega)]
      · show (w (cnt N F.testBit + cnt y G.testBit)).toNatClampNeg = y
        rw [g2 y hy hb, nI_clamp (by omega)]
theorem or_dif {C W l : Nat} (hs : sub C W) (hl : C.testBit l = true) : tg C l ||| (W ^^^ C) = tg W l := by
  apply Nat.eq_of_testBit_eq
  intro y
  rw [Nat.testBit_or, Nat.testBit_xor, tg_bit, tg_bit]
  by_cases q : l = y
  · subst q; rw [hl, hs l hl]; simp
  · simp only [q, decide_false, Bool.xor_false]
    cases h1 : C.testBit y with
    | true => rw [hs y h1]; rfl
    | false => simp
theorem cnt_dif {C W n : Nat} (hs : sub C W) : cnt n W.testBit = cnt n C.testBit + cnt n (W ^^^ C).testBit := by
  have h1 := cnt_split n W.testBit C.testBit
  rw [cnt_congr (f := fun e => W.testBit e && C.testBit e) (g := C.testBit) (fun e _ => by
    cases h2 : C.testBit e with
    | true => rw [hs e h2]; rfl
    | false => simp), cnt_congr (f := fun e => W.testBit e && !C.testBit e) (g := (W ^^^ C).testBit) (fun e _ => by
    rw [Nat.testBit_xor]
    cases h2 : C.testBit e with
    | true => rw [hs e h2]; rfl
    | false => simp)] at h1
  omega
theorem nbt_cg {C l : Nat} {g g' : Nat → Int32} {d : Int32} (hd : d = 1 ∨ d = -1) (h : ∀ e, C.testBit e = true → g' e = d * g e) (hl : C.testBit l = true) (n : Nat) : nbt C g' l n = nbt C g l n := by
  have hi : ∀ x y : Int32, d * x = d * y ↔ x = y := by
    intro x y
    constructor
    · intro h
      have : d * (d * x) = d * (d * y) := by rw [h]
      rw [← Int32.mul_assoc, ← Int32.mul_assoc] at this
      have hdd : d * d = 1 := by rcases hd with rfl | rfl <;> decide
      rw [hdd, Int32.one_mul, Int32.one_mul] at this
      exact this
    · intro h; rw [h]
  induction n with
  | zero => rfl
  | succ n ih =>
    simp only [nbt]
    rw [ih]
    by_cases q : C.testBit n = true
    · have e : (C.testBit n = true ∧ g' n ≠ g' l) ↔ (C.testBit n = true ∧ g n ≠ g l) := by
        rw [h n q, h l hl, Ne, hi]
      by_cases q2 : C.testBit n = true ∧ g n ≠ g l
      · rw [if_pos q2, if_pos (e.mpr q2)]
      · rw [if_neg q2, if_neg (fun h => q2 (e.mp h))]
    · rw [if_neg (fun h => q h.1), if_neg (fun h => q h.1)]
theorem bo_ok {sg rk els so0 : Nat → Int32} {ρ : Nat → Nat} {N R t C l : Nat} (hN : N ≤ 12) (hR : R ≤ N) (ht : t < 4) (hel : els t = nI N) (hrk : ∀ T, T < 2 ^ N → rk (4096 * t + T) = nI (ρ T)) (hρ : RF N R ρ) (hcl : Clo N ρ) (hC : Cir N ρ C) (hl : C.testBit l = true) (hmin : ∀ e, e < l → C.testBit e = false) (hW : cn (wdn ρ C N) = R + 1) : ok (f_R_belowOf 16384 sg 16384 rk 4 els 13 so0 (nI t) (nI C)) (fun r => r.1 = nI (nbt C (fun e => turn (wdn ρ C N) e * sg (4096 * t + tg (wdn ρ C N) e)) l N)) := by
  have hM := p2_12 hN
  have hCl := hC.1
  have hlN := lt_bit hCl hl
  unfold f_R_belowOf
  refine ok_jn (fun k16 => ok (k16 (nI l)) (fun r => r.1 = nI (nbt C (fun e => turn (wdn ρ C N) e * sg (4096 * t + tg (wdn ρ C N) e)) l N))) ?_ ?_
  · refine ok_nmr (nI (tg C l)) (by rw [nI_31 (by omega), nI_shl (by omega), nI_xor]; rfl) ?_
    refine ok_jn (fun k98 => ok (k98 (nI (wdn ρ C N ^^^ C))) (fun r => r.1 = nI (nbt C (fun e => turn (wdn ρ C N) e * sg (4096 * t + tg (wdn ρ C N) e)) l N))) ?_ ?_
    · have hWl : wdn ρ C N < 2 ^ N := wdn_lt hCl (Nat.le_refl _)
      have hs : sub C (wdn ρ C N) := wdn_sub
      generalize hWe : wdn ρ C N = W at *
      have hGl : W ^^^ C < 2 ^ N := Nat.xor_lt_two_pow hWl hCl
      -- the reference's numbers
      have hve : ∀ e, C.testBit e = true → psI (cnt e C.testBit) * (psI (iv N (tg C e) (W ^^^ C)) * sg (4096 * t + tg W e)) = psI (iv N C (W ^^^ C)) * (turn W e * sg (4096 * t + tg W e)) := by
        intro e he
        have heN := lt_bit hCl he
        have h1 := iv_tg (M := W ^^^ C) heN he
        have h2 := cnt_dif (n := e) hs
        rw [turn_psI, h2, ← h1, psI_add, psI_add]
        have h3 := psI_sq (cnt e (W ^^^ C).testBit)
        generalize psI (cnt e C.testBit) = a
        generalize psI (iv N (tg C e) (W ^^^ C)) = b
        generalize psI (cnt e (W ^^^ C).testBit) = c at h3 ⊢
        generalize sg (4096 * t + tg W e) = s
        have e1 : b * c * (a * c * s) = (c * c) * (a * (b * s)) := by grind
        rw [e1, h3, Int32.one_mul]
      have hd : psI (iv N C (W ^^^ C)) = 1 ∨ psI (iv N C (W ^^^ C)) = -1 := by unfold psI; split; exact Or.inl rfl; exact Or.inr rfl
      have hfin : nbt C (fun e => psI (cnt e C.testBit) * (psI (iv N (tg C e) (W ^^^ C)) * sg (4096 * t + tg W e))) l N = nbt C (fun e => turn W e * sg (4096 * t + tg W e)) l N := nbt_cg hd hve hl N
      rw [← hfin]
      generalize hv : (fun e => psI (cnt e C.testBit) * (psI (iv N (tg C e) (W ^^^ C)) * sg (4096 * t + tg W e))) = v
      have hva : ∀ e, v e = psI (cnt e C.testBit) * (psI (iv N (tg C e) (W ^^^ C)) * sg (4096 * t + tg W e)) := fun e => by rw [← hv]
      have hp0 : ∀ e, e ≤ l → cnt e C.testBit = 0 := fun e he => cnt_z (fun x hx => hmin x (by omega))
      have hp1 : ∀ e, l < e → cnt e C.testBit ≠ 0 := fun e he => by have := cnt_lt he hl; omega
      refine lo5_F (fun x9 x8 x7 x6 w => ∃ e : Nat, e ≤ N ∧ x9 = nI e ∧ x8 = nI (cnt e C.testBit) ∧ x7 = (if e ≤ l then 0 else v l) ∧ x6 = nI (nbt C v l e)) (fun x9 _ _ _ _ => N - x9.toNatClampNeg) ?_ ⟨0, Nat.zero_le _, nI_0.symm, nI_0.symm, (if_pos (Nat.zero_le _)).symm, rfl⟩ (by omega)
      rintro kr x9 x8 x7 x6 w ⟨e, he, rfl, rfl, rfl, rfl⟩ ih
      refine ok_in (vp_in_nI ht (by decide)) ?_
      rw [nI_clamp (by omega), hel]
      refine ok_if (fun q => ?_) (fun q => ?_)
      · have e2 : e = N := by
          have := (nI_leI (by omega) (by omega)).mp q
          omega
        subst e2
        exact ok_some rfl
      · have hlt : e < N := by
          rcases Nat.lt_or_ge e N with q1 | q1
          · exact q1
          · exact absurd ((nI_leI (by omega) (by omega)).mpr q1) q
        have hcb := cnt_bd (f := C.testBit) (N := e)
        have hcd : cnt (e + 1) C.testBit = cnt e C.testBit + (if C.testBit e = true then 1 else 0) := rfl
        refine ok_jn (fun k203 => ∀ w' : Nat → Int32, ok (k203 (nI (nbt C v l (e + 1))) (if e + 1 ≤ l then 0 else v l) (nI (cnt (e + 1) C.testBit)) w') (fun r => r.1 = nI (nbt C v l N))) ?_ ?_
        · intro w'
          refine ok_nmr (nI (e + 1)) (nI_1 ..) ?_
          exact ih _ _ _ _ _ ⟨e + 1, hlt, rfl, rfl, rfl, rfl⟩ (by rw [nI_clamp (by omega), nI_clamp (by omega)]; omega)
        · intro k203 h203
          have hbit := nI_bit0 (show C < 2 ^ 31 by omega) (show e < 31 by omega)
          refine ok_if (fun q2 => ?_) (fun q2 => ?_)
          · have hb := hbit.mp q2
            have hle : e ≠ l := fun h => by rw [h, hl] at hb; cases hb
            have h5 := h203 w
            have hcd0 : cnt (e + 1) C.testBit = cnt e C.testBit := by rw [hcd, if_neg (by rw [hb]; decide)]; rfl
            rw [hcd0] at h5
            have e3 : nbt C v l (e + 1) = nbt C v l e := by simp only [nbt]; rw [if_neg (fun h => by rw [hb] at h; exact absurd h.1 (by decide))]
            rw [e3] at h5
            have e4 : (if e + 1 ≤ l then (0 : Int32) else v l) = (if e ≤ l then 0 else v l) := by
              by_cases q3 : e ≤ l
              · rw [if_pos q3, if_pos (by omega)]
              · rw [if_neg q3, if_neg (by omega)]
            rw [e4] at h5
            exact h5
          · have hb : C.testBit e = true := by
              cases q3 : C.testBit e with
              | true => rfl
              | false => exact absurd (hbit.mpr q3) q2
            have hle : l ≤ e := by
              rcases Nat.lt_or_ge e l with q3 | q3
              · rw [hmin e q3] at hb; cases hb
              · exact q3
            have hFl := tg_lt hCl hlt
            have hcnt : cnt N (tg C e).testBit + cnt N (W ^^^ C).testBit ≤ 13 := by
              have h6 := cnt_dif (n := N) hs
              have h7 := cn_N hWl hN
              have h8 := cnt_tg hlt C
              rw [if_pos hb, if_pos hb] at h8
              omega
            rw [nI_31 (by omega), nI_shl (by omega), nI_xor, show C ^^^ 2 ^ e = tg C e from rfl]
            refine ok_b2 (dto_ok hN ht hFl hGl hel hcnt) ?_
            intro r17 u18 hr
            dsimp only at hr
            rw [or_dif hs hb] at hr
            refine ok_jn (fun k163 => ok (k163 (v e)) (fun r => r.1 = nI (nbt C v l N))) ?_ ?_
            · refine ok_jn (fun k177 => ok (k177 (v l)) (fun r => r.1 = nI (nbt C v l N))) ?_ ?_
              · refine ok_jn (fun k198 => ok (k198 (nI (nbt C v l (e + 1)))) (fun r => r.1 = nI (nbt C v l N))) ?_ ?_
                · refine ok_nmr (nI (cnt (e + 1) C.testBit)) (by rw [nI_1, hcd, if_pos hb]) ?_
                  have h5 := h203 u18
                  rw [if_neg (show ¬ e + 1 ≤ l by omega)] at h5
                  exact h5
                · intro k198 h198
                  simp only [nbt] at h198
                  refine ok_if (fun q4 => ?_) (fun q4 => ?_)
                  · rw [if_neg (fun h => h.2 q4)] at h198; exact h198
                  · rw [if_pos ⟨hb, q4⟩] at h198
                    rw [nI_or]; exact h198
              · intro k177 h177
                by_cases q3 : e = l
                · subst q3
                  rw [hp0 e (Nat.le_refl _)]
                  exact ok_if (fun _ => h177) (fun q4 => absurd rfl q4)
                · rw [if_neg (show ¬ e ≤ l by omega)]
                  refine ok_if (fun q4 => ?_) (fun _ => h177)
                  exact absurd ((nI_eq0 (by omega)).mp q4) (hp1 e (by omega))
            · intro k163 h163
              rw [hva e, ← hr] at h163
              rw [show (2 : Int32) = nI 2 from rfl, pk_rem (by omega) (by decide) (by decide)]
              unfold psI at h163
              refine ok_if (fun q4 => ?_) (fun q4 => ?_)
              · have := (nI_eq0 (by omega)).mp q4
                rw [if_pos this, Int32.one_mul] at h163; exact h163
              · have : ¬ cnt e C.testBit % 2 = 0 := fun h => q4 ((nI_eq0 (by omega)).mpr h)
                rw [if_neg this, Int32.neg_mul, Int32.one_mul] at h163; exact h163
    · intro k98 h98
      refine lo2_F (fun v x => ∃ e : Nat, e ≤ N ∧ v = nI e ∧ x = nI (wdn ρ C e ^^^ C)) (fun v _ => N - v.toNatClampNeg) ?_ ⟨0, Nat.zero_le _, nI_0.symm, by show (0 : Int32) = nI (C ^^^ C); rw [Nat.xor_self]; rfl⟩ (by omega)
      rintro ks v x ⟨e, he, rfl, rfl⟩ ih
      refine ok_in (vp_in_nI ht (by decide)) ?_
      rw [nI_clamp (by omega), hel]
      refine ok_if (fun q => ?_) (fun q => ?_)
      · have e2 : e = N := by
          have := (nI_leI (by omega) (by omega)).mp q
          omega
        subst e2
        exact h98
      · have hlt : e < N := by
          rcases Nat.lt_or_ge e N with q1 | q1
          · exact q1
          · exact absurd ((nI_leI (by omega) (by omega)).mpr q1) q
        have hWl : wdn ρ C e < 2 ^ N := wdn_lt hCl he
        have hs : sub C (wdn ρ C e) := wdn_sub
        have hGl : wdn ρ C e ^^^ C < 2 ^ N := Nat.xor_lt_two_pow hWl hCl
        refine ok_nmr (nI (tg (wdn ρ C e) l)) (by rw [nI_or, or_dif hs hl]) ?_
        have htwo := wdn_two hN hρ hcl hC hlN hl
        refine ok_jn (fun k90 => ok (k90 (nI (wdn ρ C (e + 1) ^^^ C))) (fun r => r.1 = nI (nbt C (fun e => turn (wdn ρ C N) e * sg (4096 * t + tg (wdn ρ C N) e)) l N))) ?_ ?_
        · refine ok_nmr (nI (e + 1)) (nI_1 ..) ?_
          exact ih _ _ ⟨e + 1, hlt, rfl, rfl⟩ (by rw [nI_clamp (by omega), nI_clamp (by omega)]; omega)
        · intro k90 h90
          simp only [wdn] at h90
          refine ok_jn (fun k88 => (wdn ρ C (e + 1) = wdn ρ C e) → ok (k88 ()) (fun r => r.1 = nI (nbt C (fun e => turn (wdn ρ C N) e * sg (4096 * t + tg (wdn ρ C N) e)) l N))) ?_ ?_
          · intro heq
            simp only [wdn] at heq
            rw [heq] at h90
            exact h90
          · intro k88 h88
            have hbit := nI_bit0 (show C < 2 ^ 31 by omega) (show e < 31 by omega)
            refine ok_if (fun q2 => ?_) (fun q2 => ?_)
            · have hb := hbit.mp q2
              have hWb : (wdn ρ C e).testBit e = false := by
                cases q3 : (wdn ρ C e).testBit e with
                | false => rfl
                | true =>
                  rcases wdn_bit q3 with q4 | q4
                  · rw [hb] at q4; cases q4
                  · omega
              have hle : l ≠ e := fun h => by rw [← h, hl] at hb; cases hb
              have htb : (tg (wdn ρ C e) l).testBit e = false := by rw [tg_ne hle]; exact hWb
              have h1 := tg_lt hWl hlN
              rw [nI_orb (by omega), if_neg (by rw [htb]; decide)]
              refine ok_b1 (rr_ok hN ht (tg_lt h1 hlt) hrk) ?_
              rintro r35 rfl
              refine ok_b1 (rr_ok hN ht h1 hrk) ?_
              rintro r37 rfl
              have r1 : ρ (tg (wdn ρ C e) l) = ρ (wdn ρ C e) := htwo _ hWl hs
              have r2 : ρ (tg (tg (wdn ρ C e) l) e) = ρ (tg (wdn ρ C e) e) := by
                rw [tg_comm]
                exact htwo _ (tg_lt hWl hlt) (sub_tr hs (sub_up hWb))
              rw [r1, r2]
              have b1 := hρ.2.2.1 _ hWl
              have b2 := hρ.2.2.1 _ (tg_lt hWl hlt)
              rw [if_neg (by rw [hWb]; decide)] at h90
              refine ok_if (fun q3 => ?_) (fun q3 => ?_)
              · have := (nI_leI (by omega) (by omega)).mp q3
                refine h88 ?_
                simp only [wdn]
                rw [if_neg (by rw [hWb]; decide), if_pos this]
              · have : ¬ ρ (tg (wdn ρ C e) e) ≤ ρ (wdn ρ C e) := fun h => q3 ((nI_leI (by omega) (by omega)).mpr h)
                rw [if_neg this] at h90
                have hGb : (wdn ρ C e ^^^ C).testBit e = false := by rw [Nat.testBit_xor, hWb, hb]; rfl
                rw [nI_orb (by omega), if_neg (by rw [hGb]; decide)]
                have e5 : tg (wdn ρ C e ^^^ C) e = tg (wdn ρ C e) e ^^^ C := by
                  unfold tg
                  rw [Nat.xor_assoc, Nat.xor_comm C, ← Nat.xor_assoc]
                rw [e5]; exact h90
            · have hb : C.testBit e = true := by
                cases q3 : C.testBit e with
                | true => rfl
                | false => exact absurd (hbit.mpr q3) q2
              refine h88 ?_
              simp only [wdn]
              rw [if_pos (hs e hb)]
  · intro k16 h16
    refine lo1_F (fun v => ∃ e : Nat, e ≤ l ∧ v = nI e) (fun v => l - v.toNatClampNeg) ?_ ⟨0, Nat.zero_le _, nI_0.symm⟩ (by omega)
    rintro kr v ⟨e, he, rfl⟩ ih
    have hbit := nI_bit0 (show C < 2 ^ 31 by omega) (show e < 31 by omega)
    refine ok_if (fun q => ?_) (fun q => ?_)
    · have hb := hbit.mp q
      have hne : e ≠ l := fun h => by rw [h, hl] at hb; cases hb
      refine ok_nmr (nI (e + 1)) (nI_1 ..) ?_
      exact ih _ ⟨e + 1, by omega, rfl⟩ (by rw [nI_clamp (by omega), nI_clamp (by omega)]; omega)
    · have hb : C.testBit e = true := by
        cases q3 : C.testBit e with
        | true => rfl
        | false => exact absurd (hbit.mpr q3) q
      have : e = l := by
        rcases Nat.lt_or_ge e l with q3 | q3
        · rw [hmin e q3] at hb; cases hb
        · omega
      rw [this]; exact h16
