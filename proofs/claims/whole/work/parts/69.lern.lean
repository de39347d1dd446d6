/-! learn: the reference's study of one table -/
theorem wl_pivs {m : Nat} (hm : FdP m) {N R : Nat} {pv : Nat → Nat} {E : Nat → Nat → Int} (h1 : ¬ (m : Int) ∣ 1) (hpn : ∀ i, i < R → pv i < N) (hpi : ∀ i j, i < j → j < R → pv i < pv j) (h0 : ∀ i j, i < R → j < R → i ≠ j → E i (pv j) = 0) (hd : ∀ i, i < R → ¬ (m : Int) ∣ E i (pv i)) : ¬ (m : Int) ∣ wl N (ol E R) (msk N (inP R pv)) := by
  have hpj := inc_inj hpi
  have key : ∀ r, r ≤ R → ¬ (m : Int) ∣ wl N (ol E r) (msk N (inP r pv)) := by
    intro r
    induction r with
    | zero =>
      intro _
      have h : msk N (inP 0 pv) = 0 := by
        apply Nat.eq_of_testBit_eq
        intro e
        rw [msk_bit, Nat.zero_testBit]
        simp [inP]
      rw [h]
      simpa [ol, wl, vac] using h1
    | succ r ih =>
      intro hr
      have e0 : msk N (inP (r + 1) pv) = tg (msk N (inP r pv)) (pv r) := by
        rw [← msk_up (hpn r hr) (tnP hr hpj)]
        congr 1
        funext e
        have : (fun j => if j = r then pv r else pv j) = pv := by
          funext j
          by_cases q : j = r
          · rw [if_pos q, q]
          · rw [if_neg q]
        rw [this]
      rw [e0]
      show ¬ (m : Int) ∣ wd N (E r) (wl N (ol E r)) (tg (msk N (inP r pv)) (pv r))
      rw [wd_piv (hpn r hr) (tnP hr hpj) (fun j hj => h0 r j hr (by omega) (by omega)), Int.mul_assoc]
      intro hc
      rcases fd_dom hm (sg_canc hc) with q | q
      · exact hd r hr q
      · exact ih (by omega) q
  exact key R (Nat.le_refl R)
theorem rd_0 {Q : ((Nat → Int32) × Int32 × (Nat → Int32) × (Nat → Int32) × (Nat → Int32) × (Nat → Nat → Int32)) → Prop} {pn pm sm pvs : Nat → Int32} {pd : Nat → Nat → Int32} {rows p : Nat} (hQ : Q (sm, nI 0, pvs, pn, pm, pd)) : ok (f_R_reduce (nI rows) (nI 0) (nI p) sm pvs pn pm pd) Q := by
  unfold f_R_reduce
  refine ok_jn (fun k112 => ok (k112 (nI 0) sm pvs pn pm pd) Q) ?_ ?_
  · refine lo5_F (fun v s rn rm rd => v = 0 ∧ s = sm ∧ rn = pn ∧ rm = pm ∧ rd = pd) (fun _ _ _ _ _ => 0) ?_ ⟨rfl, rfl, rfl, rfl, rfl⟩ (by omega)
    rintro kr v s rn rm rd ⟨rfl, rfl, rfl, rfl, rfl⟩ ih
    exact ok_if (fun _ => ok_some hQ) (fun q => absurd (by decide) q)
  · intro k112 h112
    refine lo7_F (fun v2 v1 s pvv qn qm qd => v2 = 0 ∧ v1 = nI 0 ∧ s = sm ∧ pvv = pvs ∧ qn = pn ∧ qm = pm ∧ qd = pd) (fun _ _ _ _ _ _ _ => 0) ?_ ⟨rfl, rfl, rfl, rfl, rfl, rfl, rfl⟩ (by omega)
    rintro kr v2 v1 s pvv qn qm qd ⟨rfl, rfl, rfl, rfl, rfl, rfl, rfl⟩ ih
    exact ok_if (fun _ => h112) (fun q => absurd (by decide) q)
