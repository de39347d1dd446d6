/-! reduce, field 0: the whole method -/
theorem rd_okQ {Q : ((Nat → Int32) × Int32 × (Nat → Int32) × (Nat → Int32) × (Nat → Int32) × (Nat → Nat → Int32)) → Prop} {pn pm sm pvs : Nat → Int32} {pd : Nat → Nat → Int32} {V : Nat → Int} {rows n C : Nat} (h : PO pn pm pd V) (hr : rows ≤ 12) (hn : n ≤ 12) (h1 : 1 ≤ n * C) (h2 : n * C < 65536) (hV : ∀ k, k < rows → ∀ e, e < n → (V (12 * k + e)).natAbs ≤ C) (hQ : ∀ t : ((Nat → Int32) × Int32 × (Nat → Int32) × (Nat → Int32) × (Nat → Int32) × (Nat → Nat → Int32)), (∃ (R : Nat) (pv : Nat → Nat) (V' : Nat → Int), t.2.1 = nI R ∧ (∀ i, i < R → t.2.2.1 i = nI (pv i)) ∧ PO t.2.2.2.1 t.2.2.2.2.1 t.2.2.2.2.2 V' ∧ Rd n rows R pv (fun i j => V (12 * i + j)) V' ∧ (∀ q, q < 192 → (∀ i j, i < rows → j < n → q ≠ 12 * i + j) → V' q = V q) ∧ ∀ i j, i < rows → j < n → sz (V' (12 * i + j)) 14) → Q t) : ok (f_R_reduce (nI rows) (nI n) 0 sm pvs pn pm pd) Q := by
  unfold f_R_reduce
  refine ok_jn (fun k112 => ∀ (r : Nat) (s pvv qn qm : Nat → Int32) (qd : Nat → Nat → Int32) (pv : Nat → Nat) (W : Nat → Int), PO qn qm qd W → Rs n rows n r C pv (fun i j => V (12 * i + j)) W → (∀ i, i < r → pvv i = nI (pv i)) → (∀ q, q < 192 → (∀ i j, i < rows → j < n → q ≠ 12 * i + j) → W q = V q) → ok (k112 (nI r) s pvv qn qm qd) Q) ?_ ?_
  · intro r s pvv qn qm qd pv W hW hR hpv hO
    have hsz := fun i j => Rs_sz hR hr h1 h2 (i := i) (j := j)
    have hrr : r ≤ rows := by obtain ⟨O, g1, -⟩ := hR; exact g1.1
    have hpn : ∀ i, i < r → pv i < n := by obtain ⟨O, g1, -⟩ := hR; exact g1.2.1
    refine lo5_F (fun v _ rn rm rd => ∃ (a : Nat) (X : Nat → Int), a ≤ r ∧ v = nI a ∧ PO rn rm rd X ∧ (∀ i, i < a → 0 ≤ X (12 * i + pv i) ∧ ∃ s : Int, (s = 1 ∨ s = -1) ∧ ∀ j, j < n → X (12 * i + j) = s * (W (12 * i + j)).tdiv (rg W (12 * i) n)) ∧ (∀ i, a ≤ i → i < rows → ∀ j, j < n → X (12 * i + j) = W (12 * i + j)) ∧ ∀ q, q < 192 → (∀ i j, i < rows → j < n → q ≠ 12 * i + j) → X q = V q) (fun v _ _ _ _ => r - v.toNatClampNeg) ?_ ⟨0, W, Nat.zero_le _, nI_0.symm, hW, fun i hi => absurd hi (by omega), fun _ _ _ _ _ => rfl, hO⟩ (by omega)
    rintro kr v s' rn rm rd ⟨a, X, ha, rfl, hX, x1, x2, x3⟩ ih
    refine ok_if (fun q => ?_) (fun q => ?_)
    · have e : a = r := by
        have := (nI_leI (by omega) (by omega)).mp q
        omega
      subst e
      have hrd := Rd_of hR hr h1 h2 x1
      exact ok_some (hQ _ ⟨a, pv, X, rfl, hpv, hX, hrd, x3, fun i j hi hj => by
        by_cases q2 : i < a
        · exact hrd.2.2.2.2.2.2.1 i j q2 hj
        · rw [x2 i (by omega) hi j hj]; exact hsz i j hi hj⟩)
    · have hlt : a < r := by
        rcases Nat.lt_or_ge a r with q1 | q1
        · exact q1
        · exact absurd ((nI_leI (by omega) (by omega)).mpr q1) q
      have hrow := x2 a (Nat.le_refl a) (by omega)
      refine ok_b4 (se_ok hX (by omega) hn (hpn a hlt) (hpv a hlt) (fun j hj => by rw [hrow j hj]; exact sz_mono (hsz a j (by omega) hj) (by decide))) ?_
      rintro u1 u2 u3 u4 ⟨-, Y, hY, y1, ⟨sg, hsg, y2⟩, y3⟩
      dsimp only at hY
      refine ok_nm (fun v' hv' => ?_)
      subst hv'
      rw [nI_1]
      refine ih _ _ _ _ _ ⟨a + 1, Y, hlt, rfl, hY, ?_, ?_, ?_⟩ (by rw [nI_clamp (by omega), nI_clamp (by omega)]; omega)
      · intro i hi
        by_cases q1 : i = a
        · subst q1
          refine ⟨y1, sg, hsg, fun j hj => ?_⟩
          rw [y2 j hj, hrow j hj, rg_congr hrow]
        · have hx : ∀ j, j < n → Y (12 * i + j) = X (12 * i + j) := fun j hj => y3 _ (by omega) (fun j' hj' => by omega)
          obtain ⟨z1, s2, z2, z3⟩ := x1 i (by omega)
          refine ⟨by rw [hx _ (hpn i (by omega))]; exact z1, s2, z2, fun j hj => by rw [hx j hj, z3 j hj]⟩
      · intro i hi hi2 j hj
        rw [y3 _ (by omega) (fun j' hj' => by omega), x2 i (by omega) hi2 j hj]
      · intro q hq hqq
        rw [y3 q hq (fun j hj => hqq a j (by omega) hj), x3 q hq hqq]
  · intro k112 hk112
    refine lo7_F (fun v2 v1 _ pvv qn qm qd => ∃ (c r : Nat) (pv : Nat → Nat) (W : Nat → Int), c ≤ n ∧ v2 = nI c ∧ v1 = nI r ∧ PO qn qm qd W ∧ Rs n rows c r C pv (fun i j => V (12 * i + j)) W ∧ (∀ i, i < r → pvv i = nI (pv i)) ∧ ∀ q, q < 192 → (∀ i j, i < rows → j < n → q ≠ 12 * i + j) → W q = V q) (fun v _ _ _ _ _ _ => n - v.toNatClampNeg) ?_ ⟨0, 0, fun _ => 0, V, Nat.zero_le _, nI_0.symm, nI_0.symm, h, Rs_0 hV, fun i hi => absurd hi (by omega), fun _ _ _ => rfl⟩ (by omega)
    rintro kr v2 v1 s pvv qn qm qd ⟨c, r, pv, W, hc, rfl, rfl, hW, hR, hpv, hO⟩ ih
    have hrr : r ≤ rows := by obtain ⟨O, g1, -⟩ := hR; exact g1.1
    have hsz := fun i j => Rs_sz hR hr h1 h2 (i := i) (j := j)
    refine ok_if (fun q => ?_) (fun q => ?_)
    · have e : c = n := by
        have := (nI_leI (by omega) (by omega)).mp q
        omega
      subst e
      exact hk112 r _ _ _ _ _ pv W hW hR hpv hO
    · have hlt : c < n := by
        rcases Nat.lt_or_ge c n with q1 | q1
        · exact q1
        · exact absurd ((nI_leI (by omega) (by omega)).mpr q1) q
      refine ok_jn (fun k37 => ∀ a : Nat, r ≤ a → a ≤ rows → (∀ i, r ≤ i → i < a → W (12 * i + c) = 0) → (a < rows → W (12 * a + c) ≠ 0) → ok (k37 (nI a)) Q) ?_ ?_
      · intro a ha1 ha2 hz hnz
        refine ok_jn (fun k106 => ∀ (r' : Nat) (s pvv qn qm : Nat → Int32) (qd : Nat → Nat → Int32) (pv : Nat → Nat) (X : Nat → Int), PO qn qm qd X → Rs n rows (c + 1) r' C pv (fun i j => V (12 * i + j)) X → (∀ i, i < r' → pvv i = nI (pv i)) → (∀ q, q < 192 → (∀ i j, i < rows → j < n → q ≠ 12 * i + j) → X q = V q) → ok (k106 (nI r') s pvv qn qm qd) Q) ?_ ?_
        · intro r' s pvv qn qm qd pv X hX hRX hp hOX
          refine ok_nm (fun v' hv' => ?_)
          subst hv'
          rw [nI_1]
          exact ih _ _ _ _ _ _ _ ⟨c + 1, r', pv, X, hlt, rfl, rfl, hX, hRX, hp, hOX⟩ (by rw [nI_clamp (by omega), nI_clamp (by omega)]; omega)
        · intro k106 hk106
          refine ok_if (fun q1 => ?_) (fun q1 => ?_)
          · have e : a = rows := (nI_eq (by omega) (by omega)).mp q1
            subst e
            exact hk106 r _ _ _ _ _ pv W hW (Rs_skip hR hz) hpv hO
          · have har : a < rows := by
              rcases Nat.lt_or_ge a rows with q2 | q2
              · exact q2
              · exact absurd (by rw [show a = rows by omega]) q1
            refine ok_b4 (sw_ok hW (i := a) (k := r) (by omega) (by omega) hn (fun j hj => sz_mono (hsz a j har hj) (by decide)) (fun j hj => sz_mono (hsz r j (by omega) hj) (by decide))) ?_
            rintro u1 u2 u3 u4 ⟨X, hX, x1, x2⟩
            dsimp only at hX x1 x2
            have hRX : Rs n rows c r C pv (fun i j => V (12 * i + j)) X := by
              refine Rs_swap hR (by omega) (by omega) ha1 har (fun k hk e he => ?_)
              by_cases q2 : k = r
              · subst q2; rw [if_pos rfl]; exact (x1 e he).2.1
              · rw [if_neg q2]
                by_cases q3 : k = a
                · subst q3; rw [if_pos rfl]; exact (x1 e he).1
                · rw [if_neg q3]; exact (x2 _ (by omega) (fun j hj => by omega)).1
            have hOX : ∀ q, q < 192 → (∀ i j, i < rows → j < n → q ≠ 12 * i + j) → X q = V q := fun q hq hqq => by rw [(x2 q hq (fun j hj => ⟨hqq a j har hj, hqq r j (by omega) hj⟩)).1, hO q hq hqq]
            have hpX : X (12 * r + c) ≠ 0 := by rw [(x1 c hlt).2.1]; exact hnz har
            have hszX := fun i j => Rs_sz hRX hr h1 h2 (i := i) (j := j)
            refine ok_jn (fun k96 => ∀ (s qn qm : Nat → Int32) (qd : Nat → Nat → Int32) (Y : Nat → Int), PO qn qm qd Y → Rs n rows (c + 1) (r + 1) C (fun j => if j = r then c else pv j) (fun i j => V (12 * i + j)) Y → (∀ q, q < 192 → (∀ i j, i < rows → j < n → q ≠ 12 * i + j) → Y q = V q) → ok (k96 s qn qm qd) Q) ?_ ?_
            · intro s qn qm qd Y hY hRY hOY
              refine ok_in (vp_in_nI (by omega) (by decide)) ?_
              refine ok_nm (fun v' hv' => ?_)
              subst hv'
              rw [nI_1, nI_clamp (by omega)]
              refine hk106 (r + 1) _ _ _ _ _ _ Y hY hRY (fun i hi => ?_) hOY
              by_cases q2 : i = r
              · subst q2; rw [pk_us]; simp
              · rw [pk_un q2]; simp only [if_neg q2]; exact hpv i (by omega)
            · intro k96 hk96
              refine el_ok hX hr hn (by omega) hlt (fun i j hi hj => sz_mono (hszX i j hi hj) (by decide)) ?_
              intro rn rm rd Y hY y1 y2 y3
              exact hk96 _ _ _ _ Y hY (Rs_piv hRX (by omega) hlt hpX y1 y2) (fun q hq hqq => by rw [y3 q hq hqq, hOX q hq hqq])
      · intro k37 hk37
        refine lo1_F (fun v => ∃ a : Nat, r ≤ a ∧ a ≤ rows ∧ v = nI a ∧ ∀ i, r ≤ i → i < a → W (12 * i + c) = 0) (fun v => rows - v.toNatClampNeg) ?_ ⟨r, Nat.le_refl r, hrr, rfl, fun i h1 h2 => absurd h2 (by omega)⟩ (by omega)
        rintro kl v ⟨a, ha1, ha2, rfl, hz⟩ ihl
        refine ok_if (fun q1 => ?_) (fun q1 => ?_)
        · have e : a = rows := by
            have := (nI_leI (by omega) (by omega)).mp q1
            omega
          exact hk37 a ha1 ha2 hz (fun hh => absurd hh (by omega))
        · have hal : a < rows := by
            rcases Nat.lt_or_ge a rows with q2 | q2
            · exact q2
            · exact absurd ((nI_leI (by omega) (by omega)).mpr q2) q1
          refine ok_b1 (iz_ok hW (by omega) (sz_mono (hsz a c hal hlt) (by decide))) ?_
          intro t ht
          refine ok_if (fun q2 => ?_) (fun q2 => ?_)
          · refine hk37 a ha1 ha2 hz (fun _ e => ?_)
            rw [if_pos e] at ht
            rw [ht] at q2
            exact absurd q2 (by decide)
          · have hz0 : W (12 * a + c) = 0 := by
              rcases Classical.em (W (12 * a + c) = 0) with e | e
              · exact e
              · rw [if_neg e] at ht; exact absurd ht q2
            refine ok_nm (fun v' hv' => ?_)
            subst hv'
            rw [nI_1]
            refine ihl _ ⟨a + 1, by omega, hal, rfl, fun i g1 g2 => ?_⟩ (by rw [nI_clamp (by omega), nI_clamp (by omega)]; omega)
            by_cases q3 : i = a
            · rw [q3]; exact hz0
            · exact hz i g1 (by omega)
theorem rd_ok {pn pm sm pvs : Nat → Int32} {pd : Nat → Nat → Int32} {V : Nat → Int} {rows n C : Nat} (h : PO pn pm pd V) (hr : rows ≤ 12) (hn : n ≤ 12) (h1 : 1 ≤ n * C) (h2 : n * C < 65536) (hV : ∀ k, k < rows → ∀ e, e < n → (V (12 * k + e)).natAbs ≤ C) : ok (f_R_reduce (nI rows) (nI n) 0 sm pvs pn pm pd) (fun t => ∃ (R : Nat) (pv : Nat → Nat) (V' : Nat → Int), t.2.1 = nI R ∧ (∀ i, i < R → t.2.2.1 i = nI (pv i)) ∧ PO t.2.2.2.1 t.2.2.2.2.1 t.2.2.2.2.2 V' ∧ Rd n rows R pv (fun i j => V (12 * i + j)) V' ∧ (∀ q, q < 192 → (∀ i j, i < rows → j < n → q ≠ 12 * i + j) → V' q = V q) ∧ ∀ i j, i < rows → j < n → sz (V' (12 * i + j)) 14) := rd_okQ h hr hn h1 h2 hV (fun _ ht => ht)
