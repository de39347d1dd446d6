/-! reduce, a prime field: the whole method -/
theorem rdp_okQ {Q : ((Nat → Int32) × Int32 × (Nat → Int32) × (Nat → Int32) × (Nat → Int32) × (Nat → Nat → Int32)) → Prop} {pn pm sm pvs : Nat → Int32} {pd : Nat → Nat → Int32} {V : Nat → Int} {p rows n : Nat} (hp : p ∈ PR) (h : PO pn pm pd V) (hV : ∀ q, q < 192 → sz (V q) 150) (hr : rows ≤ 12) (hn : n ≤ 12) (hs : Pe p n rows sm) (hQ : ∀ t : ((Nat → Int32) × Int32 × (Nat → Int32) × (Nat → Int32) × (Nat → Int32) × (Nat → Nat → Int32)), (∃ (R : Nat) (pv : Nat → Nat) (V' : Nat → Int), t.2.1 = nI R ∧ (∀ i, i < R → t.2.2.1 i = nI (pv i)) ∧ PO t.2.2.2.1 t.2.2.2.2.1 t.2.2.2.2.2 V' ∧ (∀ q, q < 192 → sz (V' q) 150) ∧ Pe p n rows t.1 ∧ Rq p n rows R pv (fun i j => (ev sm (12 * i + j) : Int)) (ev t.1)) → Q t) : ok (f_R_reduce (nI rows) (nI n) (nI p) sm pvs pn pm pd) Q := by
  obtain ⟨p0, p1⟩ := pr_le p hp
  unfold f_R_reduce
  refine ok_jn (fun k112 => ∀ (r : Nat) (s pvv qn qm : Nat → Int32) (qd : Nat → Nat → Int32) (pv : Nat → Nat) (W : Nat → Int), PO qn qm qd W → (∀ q, q < 192 → sz (W q) 150) → Pe p n rows s → Rp p n rows n r pv (fun i j => (ev sm (12 * i + j) : Int)) (ev s) → (∀ i, i < r → pvv i = nI (pv i)) → ok (k112 (nI r) s pvv qn qm qd) Q) ?_ ?_
  · intro r s pvv qn qm qd pv W hW hWs hPs hR hpv
    have hrr : r ≤ rows := hR.1
    have hpn : ∀ i, i < r → pv i < n := hR.2.1
    have hpz : ∀ i, i < r → ev s (12 * i + pv i) ≠ 0 := hR.2.2.2.2.1
    refine lo5_F (fun v t rn rm rd => ∃ a : Nat, a ≤ r ∧ v = nI a ∧ rn = qn ∧ rm = qm ∧ rd = qd ∧ Pe p n rows t ∧ (∀ i, i < a → ∃ x : Nat, x * ev s (12 * i + pv i) % p = 1 ∧ ∀ j, j < n → ev t (12 * i + j) = ev s (12 * i + j) * x % p) ∧ (∀ i, a ≤ i → i < rows → ∀ j, j < n → ev t (12 * i + j) = ev s (12 * i + j))) (fun v _ _ _ _ => r - v.toNatClampNeg) ?_ ⟨0, Nat.zero_le _, nI_0.symm, rfl, rfl, rfl, hPs, fun i hi => absurd hi (by omega), fun _ _ _ _ _ => rfl⟩ (by omega)
    rintro kr v t rn rm rd ⟨a, ha, rfl, rfl, rfl, rfl, x0, x1, x2⟩ ih
    refine ok_if (fun q => ?_) (fun q => ?_)
    · have e : a = r := by
        have := (nI_leI (by omega) (by omega)).mp q
        omega
      subst e
      exact ok_some (hQ _ ⟨a, pv, W, rfl, hpv, hW, hWs, x0, Rq_of hp hR x1⟩)
    · have hlt : a < r := by
        rcases Nat.lt_or_ge a r with q1 | q1
        · exact q1
        · exact absurd ((nI_leI (by omega) (by omega)).mpr q1) q
      have hrow := x2 a (Nat.le_refl a) (by omega)
      refine ok_b4 (sep_ok (e := fun j => ev t (12 * a + j)) hp (by omega) hn (hpn a hlt) (hpv a hlt) (x0 a (by omega)) (by rw [hrow _ (hpn a hlt)]; exact hpz a hlt)) ?_
      rintro u1 u2 u3 u4 ⟨e1, e2, e3, ⟨x, y1, y2⟩, y3⟩
      dsimp only at e1 e2 e3 y1 y2 y3
      subst e1; subst e2; subst e3
      have hoth : ∀ i, i < rows → i ≠ a → ∀ j, j < n → u1 (12 * i + j) = t (12 * i + j) := fun i hi hia j hj => y3 _ (fun j' hj' => by omega)
      have hmod : ∀ j, ev t (12 * a + j) * x % p < p := fun j => Nat.mod_lt _ (by omega)
      refine ok_nm (fun v' hv' => ?_)
      subst hv'
      rw [nI_1]
      refine ih _ _ _ _ _ ⟨a + 1, hlt, rfl, rfl, rfl, rfl, ?_, ?_, ?_⟩ (by rw [nI_clamp (by omega), nI_clamp (by omega)]; omega)
      · intro i hi j hj
        by_cases q3 : i = a
        · subst q3
          have g := ev_eq (y2 j hj) (by have := hmod j; omega)
          rw [g]; exact ⟨y2 j hj, hmod j⟩
        · have g := hoth i hi q3 j hj
          have g2 : ev u1 (12 * i + j) = ev t (12 * i + j) := by unfold ev; rw [g]
          rw [g2, g]; exact x0 i hi j hj
      · intro i hi
        by_cases q1 : i = a
        · subst q1
          refine ⟨x, by rw [hrow _ (hpn i hlt)] at y1; exact y1, fun j hj => ?_⟩
          rw [ev_eq (y2 j hj) (by have := hmod j; omega), hrow j hj]
        · obtain ⟨z, z1, z2⟩ := x1 i (by omega)
          refine ⟨z, z1, fun j hj => ?_⟩
          have g := hoth i (by omega) q1 j hj
          rw [← z2 j hj]; unfold ev; rw [g]
      · intro i hi hi2 j hj
        have g := hoth i hi2 (by omega) j hj
        rw [← x2 i (by omega) hi2 j hj]; unfold ev; rw [g]
  · intro k112 hk112
    refine lo7_F (fun v2 v1 s pvv qn qm qd => ∃ (c r : Nat) (pv : Nat → Nat) (W : Nat → Int), c ≤ n ∧ v2 = nI c ∧ v1 = nI r ∧ PO qn qm qd W ∧ (∀ q, q < 192 → sz (W q) 150) ∧ Pe p n rows s ∧ Rp p n rows c r pv (fun i j => (ev sm (12 * i + j) : Int)) (ev s) ∧ (∀ i, i < r → pvv i = nI (pv i))) (fun v _ _ _ _ _ _ => n - v.toNatClampNeg) ?_ ⟨0, 0, fun _ => 0, V, Nat.zero_le _, nI_0.symm, nI_0.symm, h, hV, hs, Rp_0, fun i hi => absurd hi (by omega)⟩ (by omega)
    rintro kr v2 v1 s pvv qn qm qd ⟨c, r, pv, W, hc, rfl, rfl, hW, hWs, hPs, hR, hpv⟩ ih
    have hrr : r ≤ rows := hR.1
    refine ok_if (fun q => ?_) (fun q => ?_)
    · have e : c = n := by
        have := (nI_leI (by omega) (by omega)).mp q
        omega
      subst e
      exact hk112 r _ _ _ _ _ pv W hW hWs hPs hR hpv
    · have hlt : c < n := by
        rcases Nat.lt_or_ge c n with q1 | q1
        · exact q1
        · exact absurd ((nI_leI (by omega) (by omega)).mpr q1) q
      have hval : ∀ a, a < rows → (s (12 * a + c) = 0 ↔ ev s (12 * a + c) = 0) := by
        intro a ha
        obtain ⟨g1, g2⟩ := hPs a ha c hlt
        constructor
        · intro g; rw [g] at g1; exact (nI_eq0 (by omega)).mp g1.symm
        · intro g; rw [g1]; exact (nI_eq0 (by omega)).mpr g
      refine ok_jn (fun k37 => ∀ a : Nat, r ≤ a → a ≤ rows → (∀ i, r ≤ i → i < a → ev s (12 * i + c) = 0) → (a < rows → ev s (12 * a + c) ≠ 0) → ok (k37 (nI a)) Q) ?_ ?_
      · intro a ha1 ha2 hz hnz
        refine ok_jn (fun k106 => ∀ (r' : Nat) (s pvv qn qm : Nat → Int32) (qd : Nat → Nat → Int32) (pv : Nat → Nat) (X : Nat → Int), PO qn qm qd X → (∀ q, q < 192 → sz (X q) 150) → Pe p n rows s → Rp p n rows (c + 1) r' pv (fun i j => (ev sm (12 * i + j) : Int)) (ev s) → (∀ i, i < r' → pvv i = nI (pv i)) → ok (k106 (nI r') s pvv qn qm qd) Q) ?_ ?_
        · intro r' s pvv qn qm qd pv X hX hXs hPX hRX hp'
          refine ok_nm (fun v' hv' => ?_)
          subst hv'
          rw [nI_1]
          exact ih _ _ _ _ _ _ _ ⟨c + 1, r', pv, X, hlt, rfl, rfl, hX, hXs, hPX, hRX, hp'⟩ (by rw [nI_clamp (by omega), nI_clamp (by omega)]; omega)
        · intro k106 hk106
          refine ok_if (fun q1 => ?_) (fun q1 => ?_)
          · have e : a = rows := (nI_eq (by omega) (by omega)).mp q1
            subst e
            exact hk106 r _ _ _ _ _ pv W hW hWs hPs (Rp_skip hR hz) hpv
          · have har : a < rows := by
              rcases Nat.lt_or_ge a rows with q2 | q2
              · exact q2
              · exact absurd (by rw [show a = rows by omega]) q1
            refine ok_b4 (sw_ok hW (i := a) (k := r) (by omega) (by omega) hn (fun j hj => hWs _ (by omega)) (fun j hj => hWs _ (by omega))) ?_
            rintro u1 u2 u3 u4 ⟨X, hX, x1, x2⟩
            dsimp only at hX x1 x2
            have hXs : ∀ q, q < 192 → sz (X q) 150 := by
              intro q hq
              by_cases c1 : ∃ j, j < n ∧ q = 12 * a + j
              · obtain ⟨j, hj, rfl⟩ := c1
                rw [(x1 j hj).1]; exact hWs _ (by omega)
              · by_cases c2 : ∃ j, j < n ∧ q = 12 * r + j
                · obtain ⟨j, hj, rfl⟩ := c2
                  rw [(x1 j hj).2.1]; exact hWs _ (by omega)
                · rw [(x2 q hq (fun j hj => ⟨fun g => c1 ⟨j, hj, g⟩, fun g => c2 ⟨j, hj, g⟩⟩)).1]; exact hWs _ hq
            have hsw : ∀ k, k < rows → ∀ e, e < n → u1 (12 * k + e) = s (12 * (if k = r then a else if k = a then r else k) + e) := by
              intro k hk e he
              by_cases q2 : k = r
              · subst q2; rw [if_pos rfl]; exact (x1 e he).2.2.2
              · rw [if_neg q2]
                by_cases q3 : k = a
                · subst q3; rw [if_pos rfl]; exact (x1 e he).2.2.1
                · rw [if_neg q3]; exact (x2 _ (by omega) (fun j hj => by omega)).2
            have hswe : ∀ k, k < rows → ∀ e, e < n → ev u1 (12 * k + e) = ev s (12 * (if k = r then a else if k = a then r else k) + e) := fun k hk e he => by unfold ev; rw [hsw k hk e he]
            have hPX : Pe p n rows u1 := by
              intro k hk e he
              rw [hswe k hk e he, hsw k hk e he]
              refine hPs _ ?_ e he
              split
              · exact har
              · split
                · omega
                · exact hk
            have hRX := Rp_swap hR (by omega) (by omega) ha1 har hswe
            have hpX : ev u1 (12 * r + c) ≠ 0 := by
              rw [hswe r (by omega) c hlt, if_pos rfl]; exact hnz har
            refine ok_jn (fun k96 => ∀ t : Nat → Int32, Pe p n rows t → Rp p n rows (c + 1) (r + 1) (fun j => if j = r then c else pv j) (fun i j => (ev sm (12 * i + j) : Int)) (ev t) → ok (k96 t u2 u3 u4) Q) ?_ ?_
            · intro t hPt hRt
              refine ok_in (vp_in_nI (by omega) (by decide)) ?_
              refine ok_nm (fun v' hv' => ?_)
              subst hv'
              rw [nI_1, nI_clamp (by omega)]
              refine hk106 (r + 1) _ _ _ _ _ _ X hX hXs hPt hRt (fun i hi => ?_)
              by_cases q2 : i = r
              · subst q2; rw [pk_us]; simp
              · rw [pk_un q2]; simp only [if_neg q2]; exact hpv i (by omega)
            · intro k96 hk96
              refine elp_ok hp hr hn (by omega) hlt hPX hpX ?_
              intro t hPt y1 y2
              exact hk96 t hPt (Rp_piv hp hRX (by omega) hlt (fun i hi j hj => ⟨(hPX i hi j hj).2, (hPt i hi j hj).2⟩) hpX y1 y2)
      · intro k37 hk37
        refine lo1_F (fun v => ∃ a : Nat, r ≤ a ∧ a ≤ rows ∧ v = nI a ∧ ∀ i, r ≤ i → i < a → ev s (12 * i + c) = 0) (fun v => rows - v.toNatClampNeg) ?_ ⟨r, Nat.le_refl r, hrr, rfl, fun i h1 h2 => absurd h2 (by omega)⟩ (by omega)
        rintro kl v ⟨a, ha1, ha2, rfl, hz⟩ ihl
        refine ok_if (fun q1 => ?_) (fun q1 => ?_)
        · have e : a = rows := by
            have := (nI_leI (by omega) (by omega)).mp q1
            omega
          exact hk37 a ha1 ha2 hz (fun hh => absurd hh (by omega))
        · have hal : a < rows := by
            rcases Nat.lt_or_ge a rows with q2 | q2
            · exact q2
            · exact absurd ((nI_leI (by omega) (by omega)).mpr q2) q1
          refine ok_b1 (izp_ok (by omega) (by omega) (by omega)) ?_
          intro t ht
          refine ok_if (fun q2 => ?_) (fun q2 => ?_)
          · refine hk37 a ha1 ha2 hz (fun _ e => ?_)
            rw [if_pos ((hval a hal).mpr e)] at ht
            rw [ht] at q2
            exact absurd q2 (by decide)
          · have hz0 : ev s (12 * a + c) = 0 := by
              rcases Classical.em (s (12 * a + c) = 0) with e | e
              · exact (hval a hal).mp e
              · rw [if_neg e] at ht; exact absurd ht q2
            refine ok_nm (fun v' hv' => ?_)
            subst hv'
            rw [nI_1]
            refine ihl _ ⟨a + 1, by omega, hal, rfl, fun i g1 g2 => ?_⟩ (by rw [nI_clamp (by omega), nI_clamp (by omega)]; omega)
            by_cases q3 : i = a
            · rw [q3]; exact hz0
            · exact hz i g1 (by omega)
