/-! the reference's order of sets -/
/-- the sets: s with m columns more, from column e on, in order -/
def lss : Nat → Nat → Nat → List Nat
  | 0, _, s => [s]
  | m + 1, e, s => ((List.range (12 - m - e)).map (fun i => lss m (e + i + 1) (s ||| 2 ^ (e + i)))).flatten
def wrl (w : Nat → Int32) (n : Nat) : List Nat → (Nat → Int32)
  | [] => w
  | s :: l => wrl (upd w n (nI s)) (n + 1) l
theorem wrl_app {w : Nat → Int32} {n : Nat} {a b : List Nat} : wrl w n (a ++ b) = wrl (wrl w n a) (n + a.length) b := by
  induction a generalizing w n with
  | nil => rfl
  | cons x a ih => simp only [List.cons_append, wrl, List.length_cons]; rw [ih, show n + 1 + a.length = n + (a.length + 1) by omega]
theorem wrl_out {w : Nat → Int32} {n k : Nat} {a : List Nat} (h : k < n ∨ n + a.length ≤ k) : wrl w n a k = w k := by
  induction a generalizing w n with
  | nil => rfl
  | cons x a ih =>
    simp only [wrl, List.length_cons] at h ⊢
    rw [ih (by omega), pk_un (by omega)]
theorem wrl_in {w : Nat → Int32} {n k : Nat} {a : List Nat} (h : k < a.length) : wrl w n a (n + k) = nI (a.getD k 0) := by
  induction a generalizing w n k with
  | nil => simp at h
  | cons x a ih =>
    simp only [wrl]
    cases k with
    | zero =>
      rw [wrl_out (by omega)]
      show upd w n (nI x) n = nI x
      exact pk_us
    | succ k =>
      rw [show n + (k + 1) = n + 1 + k by omega, ih (by simpa using h)]
      rfl
abbrev lTy : Type := Nat → (Nat → Int32) → Nat → (Nat → Int32) → Int32 → Int32 → Int32 → Int32 → Option (Int32 × (Nat → Int32) × (Nat → Int32))
/-- the body, its calls of itself given -/
def lbd (g : lTy) : lTy := fun (m_order_n : Nat) (m_order : Nat → Int32) (m_sizes_n : Nat) (m_sizes : Nat → Int32) (more0 : Int32) (from0 : Int32) (set0 : Int32) (n0 : Int32) =>
  ck_if (more0 = 0) (ck_in n0 m_order_n <| some ((n0 + 1), (upd m_order n0.toNatClampNeg set0), m_sizes)) (ck_jn (fun (v5_2 : Int32) (w_3 : Nat → Int32) (w_4 : Nat → Int32) => ck_if (set0 = 0) (lo2 (fun k_68 (v6_6 : Int32) (w_7 : Nat → Int32) => ck_if (v5_2 ≤ v6_6) (some (v5_2, w_3, w_7)) (ck_in v6_6 m_order_n <| ck_in (w_3 v6_6.toNatClampNeg) m_sizes_n <| ck_nm (v6_6 + 1) <| fun x_11 => k_68 x_11 (upd w_7 (w_3 v6_6.toNatClampNeg).toNatClampNeg more0))) ck_F n0 w_4) (some (v5_2, w_3, w_4))) <| fun k_60 => lo4 (fun k_24 (v6_12 : Int32) (v5_13 : Int32) (w_14 : Nat → Int32) (w_15 : Nat → Int32) => ck_if (12 < (v6_12 + more0)) (k_60 v5_13 w_14 w_15) (ck_b3 (g m_order_n w_14 m_sizes_n w_15 (more0 - 1) (v6_12 + 1) (set0 ||| ((1 : Int32) <<< (v6_12 &&& 31))) v5_13) <| fun r_17 u_18 u_19 => ck_nm (v6_12 + 1) <| fun x_21 => k_24 x_21 r_17 u_18 u_19)) ck_F from0 n0 m_order m_sizes)
/-- what one call of list does, a set begun -/
def Lok (f : lTy) (d : Nat) : Prop := ∀ (w z : Nat → Int32) (m e s n : Nat), m ≤ d → e ≤ 12 → s < 4096 → s ≠ 0 → n + (lss m e s).length ≤ 4096 → ok (f 4096 w 4096 z (nI m) (nI e) (nI s) (nI n)) (fun r => r = (nI (n + (lss m e s).length), wrl w n (lss m e s), z))
theorem lss_pre {m e s i : Nat} : ((List.range (i + 1)).map (fun i => lss m (e + i + 1) (s ||| 2 ^ (e + i)))).flatten = ((List.range i).map (fun i => lss m (e + i + 1) (s ||| 2 ^ (e + i)))).flatten ++ lss m (e + i + 1) (s ||| 2 ^ (e + i)) := by
  rw [List.range_succ, List.map_append, List.flatten_append]
  simp
theorem lss_len {m e s i j : Nat} (h : i ≤ j) : ((List.range i).map (fun i => lss m (e + i + 1) (s ||| 2 ^ (e + i)))).flatten.length ≤ ((List.range j).map (fun i => lss m (e + i + 1) (s ||| 2 ^ (e + i)))).flatten.length := by
  induction h with
  | refl => exact Nat.le_refl _
  | step _ ih => rw [lss_pre, List.length_append]; omega
theorem or_pw {s i : Nat} (hs : s < 4096) (hi : i < 12) : s ||| 2 ^ i < 4096 ∧ s ||| 2 ^ i ≠ 0 := by
  constructor
  · exact Nat.or_lt_two_pow (n := 12) hs (Nat.pow_lt_pow_right (by decide) hi)
  · intro h
    have h1 : (s ||| 2 ^ i).testBit i = true := by rw [Nat.testBit_or, Nat.testBit_two_pow_self]; simp
    rw [h, Nat.zero_testBit] at h1; cases h1
/-- the loop of one call -/
theorem l_loop {R : Type} {Q : R → Prop} {g : lTy} {d m e s n : Nat} {w z : Nat → Int32} {kk : Int32 → (Nat → Int32) → (Nat → Int32) → Option R} (hg : Lok g d) (hm : m ≤ d) (hd : d ≤ 11) (he : e ≤ 12) (hs : s < 4096) (hn : n + (lss (m + 1) e s).length ≤ 4096) (hkk : ok (kk (nI (n + (lss (m + 1) e s).length)) (wrl w n (lss (m + 1) e s)) z) Q) :
    ok (lo4 (fun k_24 (v6_12 : Int32) (v5_13 : Int32) (w_14 : Nat → Int32) (w_15 : Nat → Int32) => ck_if (12 < (v6_12 + nI (m + 1))) (kk v5_13 w_14 w_15) (ck_b3 (g 4096 w_14 4096 w_15 (nI (m + 1) - 1) (v6_12 + 1) (nI s ||| ((1 : Int32) <<< (v6_12 &&& 31))) v5_13) <| fun r_17 u_18 u_19 => ck_nm (v6_12 + 1) <| fun x_21 => k_24 x_21 r_17 u_18 u_19)) ck_F (nI e) (nI n) w z) Q := by
  have hdef : lss (m + 1) e s = ((List.range (12 - m - e)).map (fun i => lss m (e + i + 1) (s ||| 2 ^ (e + i)))).flatten := rfl
  refine lo4_F (fun v6 v5 w' z' => ∃ i : Nat, i ≤ 12 - m - e ∧ v6 = nI (e + i) ∧ v5 = nI (n + ((List.range i).map (fun i => lss m (e + i + 1) (s ||| 2 ^ (e + i)))).flatten.length) ∧ w' = wrl w n ((List.range i).map (fun i => lss m (e + i + 1) (s ||| 2 ^ (e + i)))).flatten ∧ z' = z) (fun v6 _ _ _ => 12 - v6.toNatClampNeg) ?_ ⟨0, Nat.zero_le _, rfl, rfl, rfl, rfl⟩ (by omega)
  rintro kr v6 v5 w' z' ⟨i, hi, rfl, rfl, rfl, rfl⟩ ih
  rw [nI_add]
  refine ok_if (fun q => ?_) (fun q => ?_)
  · have := (nI_ltI (a := 12) (by omega) (by omega)).mp q
    have e1 : i = 12 - m - e := by omega
    rw [e1, ← hdef]
    exact hkk
  · have h1 : ¬ 12 < e + i + (m + 1) := fun h => q ((nI_ltI (a := 12) (by omega) (by omega)).mpr h)
    have hlt : i < 12 - m - e := by omega
    obtain ⟨o1, o2⟩ := or_pw hs (show e + i < 12 by omega)
    have hl := lss_len (m := m) (e := e) (s := s) (show i + 1 ≤ 12 - m - e by omega)
    rw [← hdef] at hl
    rw [lss_pre, List.length_append] at hl
    rw [nI_sub1 (by omega), show m + 1 - 1 = m by omega, nI_1, nI_31 (by omega), nI_shl (by omega), nI_or]
    refine ok_b3 (hg _ _ m (e + i + 1) _ _ hm (by omega) o1 o2 (by omega)) ?_
    intro r17 u18 u19 hr
    have f1 := (Prod.mk.inj hr).1
    have f2 := (Prod.mk.inj (Prod.mk.inj hr).2).1
    have f3 := (Prod.mk.inj (Prod.mk.inj hr).2).2
    refine ok_nmr (nI (e + (i + 1))) rfl ?_
    refine ih _ _ _ _ ⟨i + 1, hlt, rfl, ?_, ?_, f3⟩ (by rw [nI_clamp (by omega), nI_clamp (by omega)]; omega)
    · rw [f1, lss_pre, List.length_append]; congr 1; omega
    · rw [f2, lss_pre, wrl_app]
theorem l_step {g : lTy} {d : Nat} (hd : d ≤ 11) (hg : Lok g d) : Lok (lbd g) (d + 1) := by
  intro w z m e s n hm he hs hs0 hn
  unfold lbd
  refine ok_if (fun q => ?_) (fun q => ?_)
  · have m0 := (nI_eq0 (by omega)).mp q
    subst m0
    have hl : (lss 0 e s).length = 1 := rfl
    refine ok_in (vp_in_nI (by omega) (by decide)) ?_
    rw [nI_clamp (by omega), nI_1]
    exact ok_some rfl
  · obtain ⟨m', rfl⟩ : ∃ m', m = m' + 1 := ⟨m - 1, by have : m ≠ 0 := fun h => q ((nI_eq0 (by omega)).mpr h); omega⟩
    refine ok_jn (fun k60 => ok (k60 (nI (n + (lss (m' + 1) e s).length)) (wrl w n (lss (m' + 1) e s)) z) (fun r => r = (nI (n + (lss (m' + 1) e s).length), wrl w n (lss (m' + 1) e s), z))) ?_ (fun k60 h60 => l_loop hg (by omega) hd he hs hn h60)
    exact ok_if (fun q2 => absurd ((nI_eq0 (by omega)).mp q2) hs0) (fun _ => ok_some rfl)
theorem l_all : Lok f_R_list11 11 := by
  have h0 : Lok (fun on w _ z m _ s n => f_R_list0 on w z m s n) 0 := by
    intro w z m e s n hm he hs hs0 hn
    have m0 : m = 0 := by omega
    subst m0
    have hl : (lss 0 e s).length = 1 := rfl
    unfold f_R_list0
    refine ok_if (fun _ => ?_) (fun q => absurd rfl q)
    refine ok_in (vp_in_nI (by omega) (by decide)) ?_
    rw [nI_clamp (by omega), nI_1]
    exact ok_some rfl
  have h1 : Lok f_R_list1 1 := l_step (by decide) h0
  have h2 : Lok f_R_list2 2 := l_step (by decide) h1
  have h3 : Lok f_R_list3 3 := l_step (by decide) h2
  have h4 : Lok f_R_list4 4 := l_step (by decide) h3
  have h5 : Lok f_R_list5 5 := l_step (by decide) h4
  have h6 : Lok f_R_list6 6 := l_step (by decide) h5
  have h7 : Lok f_R_list7 7 := l_step (by decide) h6
  have h8 : Lok f_R_list8 8 := l_step (by decide) h7
  have h9 : Lok f_R_list9 9 := l_step (by decide) h8
  have h10 : Lok f_R_list10 10 := l_step (by decide) h9
  exact l_step (by decide) h10
/-- the call from the constructor -/
theorem l_top {w z : Nat → Int32} {m n : Nat} (hm : m ≤ 12) (hn : n + (lss m 0 0).length ≤ 4096) (hmem : ∀ k, k < (lss m 0 0).length → (lss m 0 0).getD k 0 < 4096) : ok (f_R_list12 4096 w 4096 z (nI m) 0 0 (nI n)) (fun r => r.1 = nI (n + (lss m 0 0).length) ∧ r.2.1 = wrl w n (lss m 0 0) ∧ (m = 0 → r.2.2 = z) ∧ (0 < m → (∀ k, k < (lss m 0 0).length → r.2.2 ((lss m 0 0).getD k 0) = nI m) ∧ ∀ q, (∀ k, k < (lss m 0 0).length → q ≠ (lss m 0 0).getD k 0) → r.2.2 q = z q)) := by
  show ok (lbd f_R_list11 4096 w 4096 z (nI m) 0 0 (nI n)) _
  unfold lbd
  refine ok_if (fun q => ?_) (fun q => ?_)
  · have m0 := (nI_eq0 (by omega)).mp q
    subst m0
    have hl : (lss 0 0 0).length = 1 := rfl
    refine ok_in (vp_in_nI (by omega) (by decide)) ?_
    rw [nI_clamp (by omega), nI_1]
    exact ok_some ⟨rfl, rfl, fun _ => rfl, fun h => absurd h (by decide)⟩
  · obtain ⟨m', rfl⟩ : ∃ m', m = m' + 1 := ⟨m - 1, by have : m ≠ 0 := fun h => q ((nI_eq0 (by omega)).mpr h); omega⟩
    generalize hL : lss (m' + 1) 0 0 = L at *
    refine ok_jn (fun k60 => ok (k60 (nI (n + L.length)) (wrl w n L) z) (fun r => r.1 = nI (n + L.length) ∧ r.2.1 = wrl w n L ∧ (m' + 1 = 0 → r.2.2 = z) ∧ (0 < m' + 1 → (∀ k, k < L.length → r.2.2 (L.getD k 0) = nI (m' + 1)) ∧ ∀ q, (∀ k, k < L.length → q ≠ L.getD k 0) → r.2.2 q = z q))) ?_ (fun k60 h60 => by
      have := l_loop (w := w) (z := z) (n := n) (e := 0) (s := 0) (kk := k60) (Q := fun r => r.1 = nI (n + L.length) ∧ r.2.1 = wrl w n L ∧ (m' + 1 = 0 → r.2.2 = z) ∧ (0 < m' + 1 → (∀ k, k < L.length → r.2.2 (L.getD k 0) = nI (m' + 1)) ∧ ∀ q, (∀ k, k < L.length → q ≠ L.getD k 0) → r.2.2 q = z q)) l_all (show m' ≤ 11 by omega) (by decide) (by decide) (by decide) (by rw [hL]; exact hn) (by rw [hL]; exact h60)
      exact this)
    refine ok_if (fun _ => ?_) (fun q2 => absurd rfl q2)
    refine lo2_F (fun v z' => ∃ k : Nat, k ≤ L.length ∧ v = nI (n + k) ∧ (∀ j, j < k → z' (L.getD j 0) = nI (m' + 1)) ∧ ∀ q, (∀ j, j < k → q ≠ L.getD j 0) → z' q = z q) (fun v _ => n + L.length - v.toNatClampNeg) ?_ ⟨0, Nat.zero_le _, rfl, fun j hj => absurd hj (by omega), fun _ _ => rfl⟩ (by omega)
    rintro kr v z' ⟨k, hk, rfl, g1, g2⟩ ih
    refine ok_if (fun q2 => ?_) (fun q2 => ?_)
    · have e : k = L.length := by
        have := (nI_leI (by omega) (by omega)).mp q2
        omega
      subst e
      exact ok_some ⟨rfl, rfl, fun h => absurd h (by omega), fun _ => ⟨g1, g2⟩⟩
    · have hlt : k < L.length := by
        rcases Nat.lt_or_ge k L.length with q1 | q1
        · exact q1
        · exact absurd ((nI_leI (by omega) (by omega)).mpr (show n + L.length ≤ n + k by omega)) q2
      refine ok_in (vp_in_nI (by omega) (by decide)) ?_
      rw [nI_clamp (by omega), wrl_in hlt]
      have hx := hmem k hlt
      refine ok_in (vp_in_nI hx (by decide)) ?_
      refine ok_nmr (nI (n + (k + 1))) (by rw [nI_1]; rfl) ?_
      rw [nI_clamp (by omega)]
      refine ih _ _ ⟨k + 1, hlt, rfl, fun j hj => ?_, fun q hq => ?_⟩ (by rw [nI_clamp (by omega), nI_clamp (by omega)]; omega)
      · by_cases q3 : L.getD j 0 = L.getD k 0
        · rw [q3, pk_us]
        · rw [pk_un q3]
          have : j ≠ k := fun h => q3 (by rw [h])
          exact g1 j (by omega)
      · rw [pk_un (hq k (by omega))]; exact g2 q (fun j hj => hq j (by omega))
/-- all sets by size -/
def LL : Nat → List Nat
  | 0 => []
  | k + 1 => LL k ++ lss k 0 0
def srt : List Nat → Bool
  | [] => true
  | [_] => true
  | a :: b :: l => decide (kap a < kap b) && srt (b :: l)
theorem LL_chk : (decide ((LL 13).length = 4096) && (LL 13).all (fun x => decide (x < 4096)) && srt (LL 13) && (List.range 13).all (fun k => (lss k 0 0).all (fun x => decide (cn x = k)))) = true := by decide +kernel
theorem srt_get {l : List Nat} (h : srt l = true) : ∀ i j, i < j → j < l.length → kap (l.getD i 0) < kap (l.getD j 0) := by
  induction l with
  | nil => intro i j _ hj; simp at hj
  | cons a l ih =>
    cases l with
    | nil => intro i j hij hj; simp at hj; omega
    | cons b l =>
      simp only [srt, Bool.and_eq_true, decide_eq_true_eq] at h
      have h2 := ih h.2
      intro i j hij hj
      cases j with
      | zero => omega
      | succ j =>
        cases i with
        | zero =>
          cases j with
          | zero => exact h.1
          | succ j =>
            have := h2 0 (j + 1) (by omega) (by simpa using hj)
            exact Nat.lt_trans h.1 this
        | succ i => exact h2 i j (by omega) (by simpa using hj)
/-- the reference's order -/
def osR (k : Nat) : Nat := (LL 13).getD k 0
theorem osR_Od : Od 4096 kap osR := by
  have h := LL_chk
  simp only [Bool.and_eq_true, decide_eq_true_eq] at h
  refine ⟨fun a ha => ?_, fun a b hab hb => srt_get h.1.2 a b hab (by rw [h.1.1.1]; exact hb)⟩
  have h1 := List.all_eq_true.mp h.1.1.2 (osR a) (by
    unfold osR
    rw [List.getD_eq_getElem?_getD, List.getElem?_eq_getElem (by rw [h.1.1.1]; exact ha)]
    exact List.getElem_mem _)
  exact of_decide_eq_true h1
