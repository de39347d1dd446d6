/-! exchange and closure, from the minors of rows -/
theorem wl_kill {N : Nat} {rs : List (Nat → Int)} {r : Nat → Int} (h : r ∈ rs) : ∀ S, wd N r (wl N rs) S = 0 := by
  induction rs with
  | nil => simp at h
  | cons a l ih =>
    intro S
    show wd N r (wd N a (wl N l)) S = 0
    rcases List.mem_cons.mp h with e | e
    · subst e; exact wd_self S
    · rw [wd_wd, wd_z (ih e)]; rfl
theorem ex_col {N : Nat} {rs : List (Nat → Int)} {T K e : Nat} (he : e < N) (hT : wl N rs T ≠ 0) (heT : T.testBit e = false) (hK : wl N rs K ≠ 0) (heK : K.testBit e = true) : ∃ x, x < N ∧ x ≠ e ∧ T.testBit x = true ∧ K.testBit x = false ∧ wl N rs (tg (tg T e) x) ≠ 0 ∧ wl N rs (tg (tg K e) x) ≠ 0 := by
  apply Classical.byContradiction
  intro hc
  have h1 := af_wl (m := 0) (n := N) (c := fun x => if (tg T e).testBit x = true then sg (tg T e) x * wl N rs (tg (tg T e) x) else 0) (rs := rs) (fun r hr => by
    have h2 := wl_kill (N := N) hr (tg T e)
    unfold wd at h2
    rw [sm_congr (g := fun x => if (tg T e).testBit x = true then sg (tg T e) x * r x * wl N rs (tg (tg T e) x) else 0) (fun x _ => by
      by_cases q : (tg T e).testBit x = true
      · rw [if_pos q, if_pos q]; grind
      · rw [if_neg q, if_neg q]; simp), h2]
    exact Int.dvd_zero _) (tg K e)
  have h3 := Int.zero_dvd.mp h1
  unfold af at h3
  have hTe : (tg T e).testBit e = true := by rw [tg_self, heT]; rfl
  have hKe : (tg K e).testBit e = false := by rw [tg_self, heK]; rfl
  rw [sm_congr (g := fun x => if x = e then sg (tg T e) e * wl N rs T * (sg (tg K e) e * wl N rs K) else 0) (fun x hx => ?_), sm_one he] at h3
  · rcases Int.mul_eq_zero.mp h3 with q | q
    · rcases Int.mul_eq_zero.mp q with q | q
      · rcases sg_or (tg T e) e with s | s <;> rw [s] at q <;> cases q
      · exact hT q
    · rcases Int.mul_eq_zero.mp q with q | q
      · rcases sg_or (tg K e) e with s | s <;> rw [s] at q <;> cases q
      · exact hK q
  · unfold an
    dsimp only
    by_cases q : x = e
    · subst q
      rw [if_pos hTe, if_neg (by rw [hKe]; decide), if_pos rfl, tg_tg, tg_tg]
    · rw [if_neg q]
      by_cases q2 : (tg T e).testBit x = true
      · rw [if_pos q2]
        by_cases q3 : (tg K e).testBit x = true
        · rw [if_pos q3]; simp
        · rw [if_neg q3]
          rw [tg_ne (fun h => q h.symm)] at q2 q3
          have q3' : K.testBit x = false := by simpa using q3
          by_cases q4 : wl N rs (tg (tg T e) x) = 0
          · rw [q4]; simp
          · by_cases q5 : wl N rs (tg (tg K e) x) = 0
            · rw [q5]; simp
            · exact absurd ⟨x, hx, q, q2, q3', q4, q5⟩ hc
      · rw [if_neg q2]; simp
/-- free sets of the form w -/
theorem cl_ex {N : Nat} {rs : List (Nat → Int)} {cv : Nat → Int32} (hcv : ∀ S, S < 2 ^ N → cv S ≠ 0 → wl N rs S ≠ 0) (hcv' : ∀ S, S < 2 ^ N → wl N rs S ≠ 0 → cv S ≠ 0) {I K e : Nat} (he : e < N) (hI : Fr N cv I) (heI : I.testBit e = false) (hn : ¬ Fr N cv (tg I e)) (hK : Fr N cv K) (heK : K.testBit e = true) : ∃ x, x < N ∧ x ≠ e ∧ I.testBit x = true ∧ K.testBit x = false ∧ Fr N cv (tg (tg K e) x) := by
  obtain ⟨T, t1, t2, t3⟩ := hI
  obtain ⟨K', k1, k2, k3⟩ := hK
  have heT : T.testBit e = false := by
    cases q : T.testBit e with
    | false => rfl
    | true =>
      exfalso
      apply hn
      refine ⟨T, t1, t2, fun y hy => ?_⟩
      by_cases q2 : e = y
      · subst q2; exact q
      · rw [tg_ne q2] at hy; exact t3 y hy
  obtain ⟨x, x1, x2, x3, x4, x5, x6⟩ := ex_col he (hcv T t1 t2) heT (hcv K' k1 k2) (k3 e heK)
  have hxI : I.testBit x = true := by
    cases q : I.testBit x with
    | true => rfl
    | false =>
      exfalso
      apply hn
      refine ⟨tg (tg T e) x, tg_lt (tg_lt t1 he) x1, hcv' _ (tg_lt (tg_lt t1 he) x1) x5, fun y hy => ?_⟩
      by_cases q2 : x = y
      · subst q2
        rw [tg_ne (fun h => x2 h.symm), q] at hy; cases hy
      · rw [tg_ne q2]
        by_cases q3 : e = y
        · subst q3; rw [tg_self, heT]; rfl
        · rw [tg_ne q3] at hy ⊢; exact t3 y hy
  have hxK : K.testBit x = false := by
    cases q : K.testBit x with
    | false => rfl
    | true => rw [k3 x q] at x4; cases x4
  refine ⟨x, x1, x2, hxI, hxK, tg (tg K' e) x, tg_lt (tg_lt k1 he) x1, hcv' _ (tg_lt (tg_lt k1 he) x1) x6, fun y hy => ?_⟩
  by_cases q2 : x = y
  · subst q2; rw [tg_self, tg_ne (fun h => x2 h.symm), x4]; rfl
  · rw [tg_ne q2] at hy ⊢
    by_cases q3 : e = y
    · subst q3; rw [tg_self, heK] at hy; cases hy
    · rw [tg_ne q3] at hy ⊢; exact k3 y hy
/-- closure: a column that adds no rank to A adds none to more -/
def Clo (N : Nat) (ρ : Nat → Nat) : Prop := ∀ A B e, B < 2 ^ N → e < N → sub A B → B.testBit e = false → ρ (tg A e) = ρ A → ρ (tg B e) = ρ B
theorem Clo_of {N : Nat} {rs : List (Nat → Int)} {cv : Nat → Int32} {ρ : Nat → Nat} (hN : N ≤ 12) (hcv : ∀ S, S < 2 ^ N → cv S ≠ 0 → wl N rs S ≠ 0) (hcv' : ∀ S, S < 2 ^ N → wl N rs S ≠ 0 → cv S ≠ 0) (h : ∀ S, S < 2 ^ N → IsRk N cv S (ρ S)) : Clo N ρ := by
  intro A B e hB he hs heB hA
  have hAl := sub_lt hs hB
  have heA : A.testBit e = false := by
    cases q : A.testBit e with
    | false => rfl
    | true => rw [hs e q] at heB; cases heB
  obtain ⟨⟨I, i1, i2, i3⟩, i4⟩ := h A hAl
  obtain ⟨⟨J, j1, j2, j3⟩, j4⟩ := h (tg B e) (tg_lt hB he)
  obtain ⟨⟨L, l1, l2, l3⟩, l4⟩ := h B hB
  obtain ⟨-, a4⟩ := h (tg A e) (tg_lt hAl he)
  have heI : I.testBit e = false := by
    cases q : I.testBit e with
    | false => rfl
    | true => rw [i1 e q] at heA; cases heA
  have hup : ρ B ≤ ρ (tg B e) := by
    have := j4 L (sub_tr l1 (sub_up heB)) l2
    omega
  have hdn : ρ (tg B e) ≤ ρ B := by
    by_cases q : J.testBit e = true
    · have hn : ¬ Fr N cv (tg I e) := by
        intro hf
        have h1 := a4 (tg I e) (fun y hy => by
          by_cases q2 : e = y
          · subst q2; rw [tg_self, heA]; rfl
          · rw [tg_ne q2] at hy ⊢; exact i1 y hy) hf
        have h2 := cnt_tg (n := 12) (e := e) (by omega) I
        rw [if_neg (by rw [heI]; decide), if_neg (by rw [heI]; decide)] at h2
        unfold cn at *
        omega
      obtain ⟨x, x1, x2, x3, x4, x5⟩ := cl_ex hcv hcv' he i2 heI hn j2 q
      have h1 := l4 (tg (tg J e) x) (fun y hy => by
        by_cases q2 : x = y
        · subst q2; exact hs x (i1 x x3)
        · rw [tg_ne q2] at hy
          by_cases q3 : e = y
          · subst q3; rw [tg_self, q] at hy; cases hy
          · rw [tg_ne q3] at hy
            have := j1 y hy
            rwa [tg_ne q3] at this) x5
      have h2 := cnt_tg (n := 12) (e := e) (by omega) J
      rw [if_pos q, if_pos q] at h2
      have h3 := cnt_tg (n := 12) (e := x) (by omega) (tg J e)
      have b : (tg J e).testBit x = false := by rw [tg_ne (fun h => x2 h.symm)]; exact x4
      rw [if_neg (by rw [b]; decide), if_neg (by rw [b]; decide)] at h3
      unfold cn at *
      omega
    · have h1 := l4 J (fun y hy => by
        have := j1 y hy
        by_cases q3 : e = y
        · subst q3; exact absurd hy q
        · rwa [tg_ne q3] at this) j2
      omega
  omega
