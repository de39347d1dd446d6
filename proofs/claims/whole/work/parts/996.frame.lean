/-! one world over another: what a call leaves beside its own cells -/
theorem pw_places {X wc : va_W} {places : List Nat} (hC : places.map (fun i => X[i]?) = wc.map some) {k : Nat} (hk : k ∈ places) : k < X.length := by
  have h1 : X[k]? ∈ places.map (fun i => X[i]?) := List.mem_map.mpr ⟨k, hk, rfl⟩
  rw [hC] at h1
  obtain ⟨q, -, h2⟩ := List.mem_map.mp h1
  exact (List.getElem?_eq_some_iff.mp h2.symm).1
theorem pw_swap {A : Nat → Prop} {D : va_G} {cl : List vw_C} {ws ws' wc w1 : va_W} {H H1 : Heap} (places : List Nat) (hC : places.map (fun i => ws[i]?) = wc.map some) (hC' : places.map (fun i => ws'[i]?) = w1.map some) (ha : ∀ k : Nat, (ws'[k]?).map Prod.fst = (ws[k]?).map Prod.fst) (ho : ∀ k : Nat, k ∉ places → ws'[k]? = ws[k]?) (hP : va_P D cl ws H) (hD : va_D A ws) (hk : ∀ q : Nat, q < H.size → ¬ va_A wc H.size q → H1[q]? = H[q]?) (hP1 : va_P D cl w1 H1) : va_P D cl ws' H1 ∧ va_D A ws' := by
  refine pw_back hP hD hk hP1 ha (fun k q hq => ?_)
  by_cases h : k ∈ places
  · left
    obtain ⟨i, hi⟩ := List.getElem?_of_mem h
    have h1 : (w1.map some)[i]? = some (some q) := by
      rw [← hC', List.getElem?_map, hi]
      exact congrArg some hq
    rw [List.getElem?_map] at h1
    refine ⟨i, ?_⟩
    cases h2 : w1[i]? with
    | none => rw [h2] at h1; cases h1
    | some y => rw [h2] at h1; exact Option.some.inj h1
  · right
    have h1 : ws[k]? = some q := (ho k h).symm.trans hq
    exact ⟨h1, pw_off hD places hC h1 h⟩
theorem pw_appL {X Y wc : va_W} {places : List Nat} (hC : places.map (fun i => X[i]?) = wc.map some) : places.map (fun i => (X ++ Y)[i]?) = wc.map some := by
  rw [← hC]
  refine List.map_congr_left (fun k hk => ?_)
  exact List.getElem?_append_left (pw_places hC hk)
theorem pw_appR {X Y wc : va_W} {places : List Nat} (hC : places.map (fun i => Y[i]?) = wc.map some) : (places.map (fun i => X.length + i)).map (fun i => (X ++ Y)[i]?) = wc.map some := by
  rw [← hC, List.map_map]
  refine List.map_congr_left (fun k _ => ?_)
  show (X ++ Y)[X.length + k]? = Y[k]?
  rw [List.getElem?_append_right (Nat.le_add_right _ _), Nat.add_sub_cancel_left]
theorem pw_ndR {n : Nat} {places : List Nat} (h : places.Nodup) : (places.map (fun i => n + i)).Nodup := List.Pairwise.map _ (fun a b hab => by omega) h
theorem pw_swapL {A : Nat → Prop} {D : va_G} {cl : List vw_C} {X X' Y wc w1 : va_W} {H H1 : Heap} (places : List Nat) (hC : places.map (fun i => X[i]?) = wc.map some) (hC' : places.map (fun i => X'[i]?) = w1.map some) (hl : X'.length = X.length) (ha : ∀ k : Nat, (X'[k]?).map Prod.fst = (X[k]?).map Prod.fst) (ho : ∀ k : Nat, k ∉ places → X'[k]? = X[k]?) (hP : va_P D cl (X ++ Y) H) (hD : va_D A (X ++ Y)) (hk : ∀ q : Nat, q < H.size → ¬ va_A wc H.size q → H1[q]? = H[q]?) (hP1 : va_P D cl w1 H1) : va_P D cl (X' ++ Y) H1 ∧ va_D A (X' ++ Y) := by
  refine pw_swap places (pw_appL hC) (pw_appL hC') (fun k => ?_) (fun k h => ?_) hP hD hk hP1
  · by_cases q : k < X.length
    · rw [List.getElem?_append_left (by omega), List.getElem?_append_left q]; exact ha k
    · rw [List.getElem?_append_right (by omega), List.getElem?_append_right (by omega), hl]
  · by_cases q : k < X.length
    · rw [List.getElem?_append_left (by omega), List.getElem?_append_left q]; exact ho k h
    · rw [List.getElem?_append_right (by omega), List.getElem?_append_right (by omega), hl]
theorem pw_swapR {A : Nat → Prop} {D : va_G} {cl : List vw_C} {X Y Y' wc w1 : va_W} {H H1 : Heap} (places : List Nat) (hC : places.map (fun i => Y[i]?) = wc.map some) (hC' : places.map (fun i => Y'[i]?) = w1.map some) (ha : ∀ k : Nat, (Y'[k]?).map Prod.fst = (Y[k]?).map Prod.fst) (ho : ∀ k : Nat, k ∉ places → Y'[k]? = Y[k]?) (hP : va_P D cl (X ++ Y) H) (hD : va_D A (X ++ Y)) (hk : ∀ q : Nat, q < H.size → ¬ va_A wc H.size q → H1[q]? = H[q]?) (hP1 : va_P D cl w1 H1) : va_P D cl (X ++ Y') H1 ∧ va_D A (X ++ Y') := by
  refine pw_swap (places.map (fun i => X.length + i)) (pw_appR hC) (pw_appR hC') (fun k => ?_) (fun k h => ?_) hP hD hk hP1
  · by_cases q : k < X.length
    · rw [List.getElem?_append_left q, List.getElem?_append_left q]
    · rw [List.getElem?_append_right (by omega), List.getElem?_append_right (by omega)]; exact ha _
  · by_cases q : k < X.length
    · rw [List.getElem?_append_left q, List.getElem?_append_left q]
    · rw [List.getElem?_append_right (by omega), List.getElem?_append_right (by omega)]
      exact ho _ (fun h1 => h (List.mem_map.mpr ⟨k - X.length, h1, by omega⟩))
theorem pw_all {Y : va_W} {n : Nat} (hn : Y.length = n) : (List.range n).map (fun i => Y[i]?) = Y.map some := by
  subst hn
  apply List.ext_getElem?
  intro i
  rw [List.getElem?_map, List.getElem?_map]
  by_cases h : i < Y.length
  · rw [List.getElem?_range h, List.getElem?_eq_getElem h]; exact congrArg some (List.getElem?_eq_getElem h)
  · rw [List.getElem?_eq_none (by rw [List.length_range]; omega), List.getElem?_eq_none (by omega)]; rfl

/-! the class's cells: the object, its tables, its order, its minors -/
def tf (g : Nat → Nat) : Nat → Option Nat := (va_up (va_up (va_up (va_up (fun _ => none) (0 : Int32).toNatClampNeg (some (g 2))) (1 : Int32).toNatClampNeg (some (g 10))) (2 : Int32).toNatClampNeg (some (g 18))) (3 : Int32).toNatClampNeg (some (g 26)))
theorem tf_at {g : Nat → Nat} {t : Nat} (ht : t < 4) : tf g (nI t).toNatClampNeg = some (g (2 + 8 * t)) := by
  rw [nI_clamp (by omega)]
  match t, ht with
  | 0, _ => rfl
  | 1, _ => rfl
  | 2, _ => rfl
  | 3, _ => rfl
def CW (cI cJ cT : ClassId) (g : Nat → Nat) (s : KS) : va_W := [(g 0, .inr (4, [.ref (g 1), .ref (g 34), .ref (g 38)])), (g 1, .inl (cT, 4, .inr (.inr (.inr (.inr (tf g)))))), ((g 2), .inr (3, [.int (s.fld 0), .int (s.rcn 0), .int (s.ccn 0), .ref (g 3), .int (s.std 0), .ref (g 4)])), ((g 3), .inl (cI, 144, .inl (s.num 0))), ((g 4), .inr (2, [.int (s.scc 0), .int (s.sfr 0), .ref (g 5), .ref (g 6), .ref (g 7), .ref (g 8), .ref (g 9)])), ((g 5), .inl (cI, 4096, .inl (s.rk 0))), ((g 6), .inl (cI, 4096, .inl (s.sg 0))), ((g 7), .inl (cI, 6868, .inl (s.mem 0))), ((g 8), .inl (cI, 5, .inl (s.sst 0))), ((g 9), .inl (cI, 169, .inl (s.df 0))), ((g 10), .inr (3, [.int (s.fld 1), .int (s.rcn 1), .int (s.ccn 1), .ref (g 11), .int (s.std 1), .ref (g 12)])), ((g 11), .inl (cI, 144, .inl (s.num 1))), ((g 12), .inr (2, [.int (s.scc 1), .int (s.sfr 1), .ref (g 13), .ref (g 14), .ref (g 15), .ref (g 16), .ref (g 17)])), ((g 13), .inl (cI, 4096, .inl (s.rk 1))), ((g 14), .inl (cI, 4096, .inl (s.sg 1))), ((g 15), .inl (cI, 6868, .inl (s.mem 1))), ((g 16), .inl (cI, 5, .inl (s.sst 1))), ((g 17), .inl (cI, 169, .inl (s.df 1))), ((g 18), .inr (3, [.int (s.fld 2), .int (s.rcn 2), .int (s.ccn 2), .ref (g 19), .int (s.std 2), .ref (g 20)])), ((g 19), .inl (cI, 144, .inl (s.num 2))), ((g 20), .inr (2, [.int (s.scc 2), .int (s.sfr 2), .ref (g 21), .ref (g 22), .ref (g 23), .ref (g 24), .ref (g 25)])), ((g 21), .inl (cI, 4096, .inl (s.rk 2))), ((g 22), .inl (cI, 4096, .inl (s.sg 2))), ((g 23), .inl (cI, 6868, .inl (s.mem 2))), ((g 24), .inl (cI, 5, .inl (s.sst 2))), ((g 25), .inl (cI, 169, .inl (s.df 2))), ((g 26), .inr (3, [.int (s.fld 3), .int (s.rcn 3), .int (s.ccn 3), .ref (g 27), .int (s.std 3), .ref (g 28)])), ((g 27), .inl (cI, 144, .inl (s.num 3))), ((g 28), .inr (2, [.int (s.scc 3), .int (s.sfr 3), .ref (g 29), .ref (g 30), .ref (g 31), .ref (g 32), .ref (g 33)])), ((g 29), .inl (cI, 4096, .inl (s.rk 3))), ((g 30), .inl (cI, 4096, .inl (s.sg 3))), ((g 31), .inl (cI, 6868, .inl (s.mem 3))), ((g 32), .inl (cI, 5, .inl (s.sst 3))), ((g 33), .inl (cI, 169, .inl (s.df 3))), (g 34, .inr (1, [.int s.occ, .ref (g 35), .ref (g 36), .ref (g 37)])), (g 35, .inl (cI, 4096, .inl s.sets)), (g 36, .inl (cI, 14, .inl s.starts)), (g 37, .inl (cI, 13, .inl s.nexts)), (g 38, .inr (0, [.ref (g 39), .ref (g 40), .ref (g 41)])), (g 39, .inl (cJ, 4096, .inr (.inl s.lo))), (g 40, .inl (cJ, 4096, .inr (.inl s.mi))), (g 41, .inl (cJ, 4096, .inr (.inl s.hi)))]
def plV (t : Nat) : List Nat := [0, 1, 34, 35, 36, 37, 38, 39, 40, 41, 2 + 8 * t, 3 + 8 * t, 4 + 8 * t, 5 + 8 * t, 6 + 8 * t, 7 + 8 * t, 8 + 8 * t, 9 + 8 * t]
def plG (t : Nat) : List Nat := [0, 1, 2 + 8 * t, 3 + 8 * t]
def plC (t : Nat) : List Nat := [0, 1, 2 + 8 * t]
def wV (cI cJ cT : ClassId) (g : Nat → Nat) (s : KS) (t : Nat) : va_W := [(g 0, .inr (4, [.ref (g 1), .ref (g 34), .ref (g 38)])), (g 1, .inl (cT, 4, .inr (.inr (.inr (.inr (tf g)))))), (g 34, .inr (1, [.int s.occ, .ref (g 35), .ref (g 36), .ref (g 37)])), (g 35, .inl (cI, 4096, .inl s.sets)), (g 36, .inl (cI, 14, .inl s.starts)), (g 37, .inl (cI, 13, .inl s.nexts)), (g 38, .inr (0, [.ref (g 39), .ref (g 40), .ref (g 41)])), (g 39, .inl (cJ, 4096, .inr (.inl s.lo))), (g 40, .inl (cJ, 4096, .inr (.inl s.mi))), (g 41, .inl (cJ, 4096, .inr (.inl s.hi))), ((g (2 + 8 * t)), .inr (3, [.int (s.fld t), .int (s.rcn t), .int (s.ccn t), .ref (g (3 + 8 * t)), .int (s.std t), .ref (g (4 + 8 * t))])), ((g (3 + 8 * t)), .inl (cI, 144, .inl (s.num t))), ((g (4 + 8 * t)), .inr (2, [.int (s.scc t), .int (s.sfr t), .ref (g (5 + 8 * t)), .ref (g (6 + 8 * t)), .ref (g (7 + 8 * t)), .ref (g (8 + 8 * t)), .ref (g (9 + 8 * t))])), ((g (5 + 8 * t)), .inl (cI, 4096, .inl (s.rk t))), ((g (6 + 8 * t)), .inl (cI, 4096, .inl (s.sg t))), ((g (7 + 8 * t)), .inl (cI, 6868, .inl (s.mem t))), ((g (8 + 8 * t)), .inl (cI, 5, .inl (s.sst t))), ((g (9 + 8 * t)), .inl (cI, 169, .inl (s.df t)))]
def wVu (cI cJ cT : ClassId) (g : Nat → Nat) (s : KS) (t : Nat) (c : C15) : va_W := [(g 0, .inr (4, [.ref (g 1), .ref (g 34), .ref (g 38)])), (g 1, .inl (cT, 4, .inr (.inr (.inr (.inr (tf g)))))), (g 34, .inr (1, [.int c.1, .ref (g 35), .ref (g 36), .ref (g 37)])), (g 35, .inl (cI, 4096, .inl c.2.1)), (g 36, .inl (cI, 14, .inl c.2.2.1)), (g 37, .inl (cI, 13, .inl c.2.2.2.1)), (g 38, .inr (0, [.ref (g 39), .ref (g 40), .ref (g 41)])), (g 39, .inl (cJ, 4096, .inr (.inl c.2.2.2.2.1))), (g 40, .inl (cJ, 4096, .inr (.inl c.2.2.2.2.2.1))), (g 41, .inl (cJ, 4096, .inr (.inl c.2.2.2.2.2.2.1))), ((g (2 + 8 * t)), .inr (3, [.int (s.fld t), .int (s.rcn t), .int (s.ccn t), .ref (g (3 + 8 * t)), .int c.2.2.2.2.2.2.2.1, .ref (g (4 + 8 * t))])), ((g (3 + 8 * t)), .inl (cI, 144, .inl (s.num t))), ((g (4 + 8 * t)), .inr (2, [.int c.2.2.2.2.2.2.2.2.1, .int c.2.2.2.2.2.2.2.2.2.1, .ref (g (5 + 8 * t)), .ref (g (6 + 8 * t)), .ref (g (7 + 8 * t)), .ref (g (8 + 8 * t)), .ref (g (9 + 8 * t))])), ((g (5 + 8 * t)), .inl (cI, 4096, .inl c.2.2.2.2.2.2.2.2.2.2.1)), ((g (6 + 8 * t)), .inl (cI, 4096, .inl c.2.2.2.2.2.2.2.2.2.2.2.1)), ((g (7 + 8 * t)), .inl (cI, 6868, .inl c.2.2.2.2.2.2.2.2.2.2.2.2.1)), ((g (8 + 8 * t)), .inl (cI, 5, .inl c.2.2.2.2.2.2.2.2.2.2.2.2.2.1)), ((g (9 + 8 * t)), .inl (cI, 169, .inl c.2.2.2.2.2.2.2.2.2.2.2.2.2.2))]
def wG (cI cJ cT : ClassId) (g : Nat → Nat) (s : KS) (t : Nat) : va_W := [(g 0, .inr (4, [.ref (g 1), .ref (g 34), .ref (g 38)])), (g 1, .inl (cT, 4, .inr (.inr (.inr (.inr (tf g)))))), ((g (2 + 8 * t)), .inr (3, [.int (s.fld t), .int (s.rcn t), .int (s.ccn t), .ref (g (3 + 8 * t)), .int (s.std t), .ref (g (4 + 8 * t))])), ((g (3 + 8 * t)), .inl (cI, 144, .inl (s.num t)))]
def wC (cI cJ cT : ClassId) (g : Nat → Nat) (s : KS) (t : Nat) : va_W := [(g 0, .inr (4, [.ref (g 1), .ref (g 34), .ref (g 38)])), (g 1, .inl (cT, 4, .inr (.inr (.inr (.inr (tf g)))))), ((g (2 + 8 * t)), .inr (3, [.int (s.fld t), .int (s.rcn t), .int (s.ccn t), .ref (g (3 + 8 * t)), .int (s.std t), .ref (g (4 + 8 * t))]))]
def wN (cI cJ cT : ClassId) (g : Nat → Nat) (s : KS) : va_W := [(g 0, .inr (4, [.ref (g 1), .ref (g 34), .ref (g 38)])), (g 1, .inl (cT, 4, .inr (.inr (.inr (.inr (tf g))))))]
section ClassWorld
variable {cI cJ cT : ClassId} {g : Nat → Nat} {s s' : KS} {t : Nat}
theorem cw_adr (k : Nat) : (((CW cI cJ cT g s'))[k]?).map Prod.fst = ((CW cI cJ cT g s)[k]?).map Prod.fst := match k with
  | 0 => rfl
  | 1 => rfl
  | 2 => rfl
  | 3 => rfl
  | 4 => rfl
  | 5 => rfl
  | 6 => rfl
  | 7 => rfl
  | 8 => rfl
  | 9 => rfl
  | 10 => rfl
  | 11 => rfl
  | 12 => rfl
  | 13 => rfl
  | 14 => rfl
  | 15 => rfl
  | 16 => rfl
  | 17 => rfl
  | 18 => rfl
  | 19 => rfl
  | 20 => rfl
  | 21 => rfl
  | 22 => rfl
  | 23 => rfl
  | 24 => rfl
  | 25 => rfl
  | 26 => rfl
  | 27 => rfl
  | 28 => rfl
  | 29 => rfl
  | 30 => rfl
  | 31 => rfl
  | 32 => rfl
  | 33 => rfl
  | 34 => rfl
  | 35 => rfl
  | 36 => rfl
  | 37 => rfl
  | 38 => rfl
  | 39 => rfl
  | 40 => rfl
  | 41 => rfl
  | _ + 42 => rfl
theorem cw_V (ht : t < 4) : (plV t).map (fun i => (CW cI cJ cT g s)[i]?) = (wV cI cJ cT g s t).map some := match t, ht with
  | 0, _ => rfl
  | 1, _ => rfl
  | 2, _ => rfl
  | 3, _ => rfl
theorem nd_V (ht : t < 4) : (plV t).Nodup := match t, ht with
  | 0, _ => by decide
  | 1, _ => by decide
  | 2, _ => by decide
  | 3, _ => by decide
theorem cw_G (ht : t < 4) : (plG t).map (fun i => (CW cI cJ cT g s)[i]?) = (wG cI cJ cT g s t).map some := match t, ht with
  | 0, _ => rfl
  | 1, _ => rfl
  | 2, _ => rfl
  | 3, _ => rfl
theorem nd_G (ht : t < 4) : (plG t).Nodup := match t, ht with
  | 0, _ => by decide
  | 1, _ => by decide
  | 2, _ => by decide
  | 3, _ => by decide
theorem cw_C (ht : t < 4) : (plC t).map (fun i => (CW cI cJ cT g s)[i]?) = (wC cI cJ cT g s t).map some := match t, ht with
  | 0, _ => rfl
  | 1, _ => rfl
  | 2, _ => rfl
  | 3, _ => rfl
theorem nd_C (ht : t < 4) : (plC t).Nodup := match t, ht with
  | 0, _ => by decide
  | 1, _ => by decide
  | 2, _ => by decide
  | 3, _ => by decide
theorem cw_N : ([0, 1] : List Nat).map (fun i => (CW cI cJ cT g s)[i]?) = (wN cI cJ cT g s).map some := rfl
theorem wV_k {c : C15} (ht : t < 4) : wV cI cJ cT g (kset s t c) t = wVu cI cJ cT g s t c := match t, ht with
  | 0, _ => rfl
  | 1, _ => rfl
  | 2, _ => rfl
  | 3, _ => rfl
theorem wG_b {a : Int32 × Int32 × Int32 × Int32 × (Nat → Int32)} (ht : t < 4) : wG cI cJ cT g (kbeg s t a) t = [(g 0, .inr (4, [.ref (g 1), .ref (g 34), .ref (g 38)])), (g 1, .inl (cT, 4, .inr (.inr (.inr (.inr (tf g)))))), ((g (2 + 8 * t)), .inr (3, [.int a.1, .int a.2.1, .int a.2.2.1, .ref (g (3 + 8 * t)), .int a.2.2.2.1, .ref (g (4 + 8 * t))])), ((g (3 + 8 * t)), .inl (cI, 144, .inl a.2.2.2.2))] := match t, ht with
  | 0, _ => rfl
  | 1, _ => rfl
  | 2, _ => rfl
  | 3, _ => rfl
theorem wG_p {a : (Nat → Int32) × Int32} (ht : t < 4) : wG cI cJ cT g (kput s t a) t = [(g 0, .inr (4, [.ref (g 1), .ref (g 34), .ref (g 38)])), (g 1, .inl (cT, 4, .inr (.inr (.inr (.inr (tf g)))))), ((g (2 + 8 * t)), .inr (3, [.int (s.fld t), .int (s.rcn t), .int (s.ccn t), .ref (g (3 + 8 * t)), .int a.2, .ref (g (4 + 8 * t))])), ((g (3 + 8 * t)), .inl (cI, 144, .inl a.1))] := match t, ht with
  | 0, _ => rfl
  | 1, _ => rfl
  | 2, _ => rfl
  | 3, _ => rfl
theorem off_V {c : C15} (ht : t < 4) : ∀ k : Nat, k ∉ plV t → (CW cI cJ cT g (kset s t c))[k]? = (CW cI cJ cT g s)[k]? := match t, ht with
  | 0, _ => fun k h => match k, h with
    | 0, h => absurd (by decide) h
    | 1, h => absurd (by decide) h
    | 2, h => absurd (by decide) h
    | 3, h => absurd (by decide) h
    | 4, h => absurd (by decide) h
    | 5, h => absurd (by decide) h
    | 6, h => absurd (by decide) h
    | 7, h => absurd (by decide) h
    | 8, h => absurd (by decide) h
    | 9, h => absurd (by decide) h
    | 10, _ => rfl
    | 11, _ => rfl
    | 12, _ => rfl
    | 13, _ => rfl
    | 14, _ => rfl
    | 15, _ => rfl
    | 16, _ => rfl
    | 17, _ => rfl
    | 18, _ => rfl
    | 19, _ => rfl
    | 20, _ => rfl
    | 21, _ => rfl
    | 22, _ => rfl
    | 23, _ => rfl
    | 24, _ => rfl
    | 25, _ => rfl
    | 26, _ => rfl
    | 27, _ => rfl
    | 28, _ => rfl
    | 29, _ => rfl
    | 30, _ => rfl
    | 31, _ => rfl
    | 32, _ => rfl
    | 33, _ => rfl
    | 34, h => absurd (by decide) h
    | 35, h => absurd (by decide) h
    | 36, h => absurd (by decide) h
    | 37, h => absurd (by decide) h
    | 38, h => absurd (by decide) h
    | 39, h => absurd (by decide) h
    | 40, h => absurd (by decide) h
    | 41, h => absurd (by decide) h
    | _ + 42, _ => rfl
  | 1, _ => fun k h => match k, h with
    | 0, h => absurd (by decide) h
    | 1, h => absurd (by decide) h
    | 2, _ => rfl
    | 3, _ => rfl
    | 4, _ => rfl
    | 5, _ => rfl
    | 6, _ => rfl
    | 7, _ => rfl
    | 8, _ => rfl
    | 9, _ => rfl
    | 10, h => absurd (by decide) h
    | 11, h => absurd (by decide) h
    | 12, h => absurd (by decide) h
    | 13, h => absurd (by decide) h
    | 14, h => absurd (by decide) h
    | 15, h => absurd (by decide) h
    | 16, h => absurd (by decide) h
    | 17, h => absurd (by decide) h
    | 18, _ => rfl
    | 19, _ => rfl
    | 20, _ => rfl
    | 21, _ => rfl
    | 22, _ => rfl
    | 23, _ => rfl
    | 24, _ => rfl
    | 25, _ => rfl
    | 26, _ => rfl
    | 27, _ => rfl
    | 28, _ => rfl
    | 29, _ => rfl
    | 30, _ => rfl
    | 31, _ => rfl
    | 32, _ => rfl
    | 33, _ => rfl
    | 34, h => absurd (by decide) h
    | 35, h => absurd (by decide) h
    | 36, h => absurd (by decide) h
    | 37, h => absurd (by decide) h
    | 38, h => absurd (by decide) h
    | 39, h => absurd (by decide) h
    | 40, h => absurd (by decide) h
    | 41, h => absurd (by decide) h
    | _ + 42, _ => rfl
  | 2, _ => fun k h => match k, h with
    | 0, h => absurd (by decide) h
    | 1, h => absurd (by decide) h
    | 2, _ => rfl
    | 3, _ => rfl
    | 4, _ => rfl
    | 5, _ => rfl
    | 6, _ => rfl
    | 7, _ => rfl
    | 8, _ => rfl
    | 9, _ => rfl
    | 10, _ => rfl
    | 11, _ => rfl
    | 12, _ => rfl
    | 13, _ => rfl
    | 14, _ => rfl
    | 15, _ => rfl
    | 16, _ => rfl
    | 17, _ => rfl
    | 18, h => absurd (by decide) h
    | 19, h => absurd (by decide) h
    | 20, h => absurd (by decide) h
    | 21, h => absurd (by decide) h
    | 22, h => absurd (by decide) h
    | 23, h => absurd (by decide) h
    | 24, h => absurd (by decide) h
    | 25, h => absurd (by decide) h
    | 26, _ => rfl
    | 27, _ => rfl
    | 28, _ => rfl
    | 29, _ => rfl
    | 30, _ => rfl
    | 31, _ => rfl
    | 32, _ => rfl
    | 33, _ => rfl
    | 34, h => absurd (by decide) h
    | 35, h => absurd (by decide) h
    | 36, h => absurd (by decide) h
    | 37, h => absurd (by decide) h
    | 38, h => absurd (by decide) h
    | 39, h => absurd (by decide) h
    | 40, h => absurd (by decide) h
    | 41, h => absurd (by decide) h
    | _ + 42, _ => rfl
  | 3, _ => fun k h => match k, h with
    | 0, h => absurd (by decide) h
    | 1, h => absurd (by decide) h
    | 2, _ => rfl
    | 3, _ => rfl
    | 4, _ => rfl
    | 5, _ => rfl
    | 6, _ => rfl
    | 7, _ => rfl
    | 8, _ => rfl
    | 9, _ => rfl
    | 10, _ => rfl
    | 11, _ => rfl
    | 12, _ => rfl
    | 13, _ => rfl
    | 14, _ => rfl
    | 15, _ => rfl
    | 16, _ => rfl
    | 17, _ => rfl
    | 18, _ => rfl
    | 19, _ => rfl
    | 20, _ => rfl
    | 21, _ => rfl
    | 22, _ => rfl
    | 23, _ => rfl
    | 24, _ => rfl
    | 25, _ => rfl
    | 26, h => absurd (by decide) h
    | 27, h => absurd (by decide) h
    | 28, h => absurd (by decide) h
    | 29, h => absurd (by decide) h
    | 30, h => absurd (by decide) h
    | 31, h => absurd (by decide) h
    | 32, h => absurd (by decide) h
    | 33, h => absurd (by decide) h
    | 34, h => absurd (by decide) h
    | 35, h => absurd (by decide) h
    | 36, h => absurd (by decide) h
    | 37, h => absurd (by decide) h
    | 38, h => absurd (by decide) h
    | 39, h => absurd (by decide) h
    | 40, h => absurd (by decide) h
    | 41, h => absurd (by decide) h
    | _ + 42, _ => rfl
theorem off_B {a : Int32 × Int32 × Int32 × Int32 × (Nat → Int32)} (ht : t < 4) : ∀ k : Nat, k ∉ plG t → (CW cI cJ cT g (kbeg s t a))[k]? = (CW cI cJ cT g s)[k]? := match t, ht with
  | 0, _ => fun k h => match k, h with
    | 0, h => absurd (by decide) h
    | 1, h => absurd (by decide) h
    | 2, h => absurd (by decide) h
    | 3, h => absurd (by decide) h
    | 4, _ => rfl
    | 5, _ => rfl
    | 6, _ => rfl
    | 7, _ => rfl
    | 8, _ => rfl
    | 9, _ => rfl
    | 10, _ => rfl
    | 11, _ => rfl
    | 12, _ => rfl
    | 13, _ => rfl
    | 14, _ => rfl
    | 15, _ => rfl
    | 16, _ => rfl
    | 17, _ => rfl
    | 18, _ => rfl
    | 19, _ => rfl
    | 20, _ => rfl
    | 21, _ => rfl
    | 22, _ => rfl
    | 23, _ => rfl
    | 24, _ => rfl
    | 25, _ => rfl
    | 26, _ => rfl
    | 27, _ => rfl
    | 28, _ => rfl
    | 29, _ => rfl
    | 30, _ => rfl
    | 31, _ => rfl
    | 32, _ => rfl
    | 33, _ => rfl
    | 34, _ => rfl
    | 35, _ => rfl
    | 36, _ => rfl
    | 37, _ => rfl
    | 38, _ => rfl
    | 39, _ => rfl
    | 40, _ => rfl
    | 41, _ => rfl
    | _ + 42, _ => rfl
  | 1, _ => fun k h => match k, h with
    | 0, h => absurd (by decide) h
    | 1, h => absurd (by decide) h
    | 2, _ => rfl
    | 3, _ => rfl
    | 4, _ => rfl
    | 5, _ => rfl
    | 6, _ => rfl
    | 7, _ => rfl
    | 8, _ => rfl
    | 9, _ => rfl
    | 10, h => absurd (by decide) h
    | 11, h => absurd (by decide) h
    | 12, _ => rfl
    | 13, _ => rfl
    | 14, _ => rfl
    | 15, _ => rfl
    | 16, _ => rfl
    | 17, _ => rfl
    | 18, _ => rfl
    | 19, _ => rfl
    | 20, _ => rfl
    | 21, _ => rfl
    | 22, _ => rfl
    | 23, _ => rfl
    | 24, _ => rfl
    | 25, _ => rfl
    | 26, _ => rfl
    | 27, _ => rfl
    | 28, _ => rfl
    | 29, _ => rfl
    | 30, _ => rfl
    | 31, _ => rfl
    | 32, _ => rfl
    | 33, _ => rfl
    | 34, _ => rfl
    | 35, _ => rfl
    | 36, _ => rfl
    | 37, _ => rfl
    | 38, _ => rfl
    | 39, _ => rfl
    | 40, _ => rfl
    | 41, _ => rfl
    | _ + 42, _ => rfl
  | 2, _ => fun k h => match k, h with
    | 0, h => absurd (by decide) h
    | 1, h => absurd (by decide) h
    | 2, _ => rfl
    | 3, _ => rfl
    | 4, _ => rfl
    | 5, _ => rfl
    | 6, _ => rfl
    | 7, _ => rfl
    | 8, _ => rfl
    | 9, _ => rfl
    | 10, _ => rfl
    | 11, _ => rfl
    | 12, _ => rfl
    | 13, _ => rfl
    | 14, _ => rfl
    | 15, _ => rfl
    | 16, _ => rfl
    | 17, _ => rfl
    | 18, h => absurd (by decide) h
    | 19, h => absurd (by decide) h
    | 20, _ => rfl
    | 21, _ => rfl
    | 22, _ => rfl
    | 23, _ => rfl
    | 24, _ => rfl
    | 25, _ => rfl
    | 26, _ => rfl
    | 27, _ => rfl
    | 28, _ => rfl
    | 29, _ => rfl
    | 30, _ => rfl
    | 31, _ => rfl
    | 32, _ => rfl
    | 33, _ => rfl
    | 34, _ => rfl
    | 35, _ => rfl
    | 36, _ => rfl
    | 37, _ => rfl
    | 38, _ => rfl
    | 39, _ => rfl
    | 40, _ => rfl
    | 41, _ => rfl
    | _ + 42, _ => rfl
  | 3, _ => fun k h => match k, h with
    | 0, h => absurd (by decide) h
    | 1, h => absurd (by decide) h
    | 2, _ => rfl
    | 3, _ => rfl
    | 4, _ => rfl
    | 5, _ => rfl
    | 6, _ => rfl
    | 7, _ => rfl
    | 8, _ => rfl
    | 9, _ => rfl
    | 10, _ => rfl
    | 11, _ => rfl
    | 12, _ => rfl
    | 13, _ => rfl
    | 14, _ => rfl
    | 15, _ => rfl
    | 16, _ => rfl
    | 17, _ => rfl
    | 18, _ => rfl
    | 19, _ => rfl
    | 20, _ => rfl
    | 21, _ => rfl
    | 22, _ => rfl
    | 23, _ => rfl
    | 24, _ => rfl
    | 25, _ => rfl
    | 26, h => absurd (by decide) h
    | 27, h => absurd (by decide) h
    | 28, _ => rfl
    | 29, _ => rfl
    | 30, _ => rfl
    | 31, _ => rfl
    | 32, _ => rfl
    | 33, _ => rfl
    | 34, _ => rfl
    | 35, _ => rfl
    | 36, _ => rfl
    | 37, _ => rfl
    | 38, _ => rfl
    | 39, _ => rfl
    | 40, _ => rfl
    | 41, _ => rfl
    | _ + 42, _ => rfl
theorem off_P {a : (Nat → Int32) × Int32} (ht : t < 4) : ∀ k : Nat, k ∉ plG t → (CW cI cJ cT g (kput s t a))[k]? = (CW cI cJ cT g s)[k]? := match t, ht with
  | 0, _ => fun k h => match k, h with
    | 0, h => absurd (by decide) h
    | 1, h => absurd (by decide) h
    | 2, h => absurd (by decide) h
    | 3, h => absurd (by decide) h
    | 4, _ => rfl
    | 5, _ => rfl
    | 6, _ => rfl
    | 7, _ => rfl
    | 8, _ => rfl
    | 9, _ => rfl
    | 10, _ => rfl
    | 11, _ => rfl
    | 12, _ => rfl
    | 13, _ => rfl
    | 14, _ => rfl
    | 15, _ => rfl
    | 16, _ => rfl
    | 17, _ => rfl
    | 18, _ => rfl
    | 19, _ => rfl
    | 20, _ => rfl
    | 21, _ => rfl
    | 22, _ => rfl
    | 23, _ => rfl
    | 24, _ => rfl
    | 25, _ => rfl
    | 26, _ => rfl
    | 27, _ => rfl
    | 28, _ => rfl
    | 29, _ => rfl
    | 30, _ => rfl
    | 31, _ => rfl
    | 32, _ => rfl
    | 33, _ => rfl
    | 34, _ => rfl
    | 35, _ => rfl
    | 36, _ => rfl
    | 37, _ => rfl
    | 38, _ => rfl
    | 39, _ => rfl
    | 40, _ => rfl
    | 41, _ => rfl
    | _ + 42, _ => rfl
  | 1, _ => fun k h => match k, h with
    | 0, h => absurd (by decide) h
    | 1, h => absurd (by decide) h
    | 2, _ => rfl
    | 3, _ => rfl
    | 4, _ => rfl
    | 5, _ => rfl
    | 6, _ => rfl
    | 7, _ => rfl
    | 8, _ => rfl
    | 9, _ => rfl
    | 10, h => absurd (by decide) h
    | 11, h => absurd (by decide) h
    | 12, _ => rfl
    | 13, _ => rfl
    | 14, _ => rfl
    | 15, _ => rfl
    | 16, _ => rfl
    | 17, _ => rfl
    | 18, _ => rfl
    | 19, _ => rfl
    | 20, _ => rfl
    | 21, _ => rfl
    | 22, _ => rfl
    | 23, _ => rfl
    | 24, _ => rfl
    | 25, _ => rfl
    | 26, _ => rfl
    | 27, _ => rfl
    | 28, _ => rfl
    | 29, _ => rfl
    | 30, _ => rfl
    | 31, _ => rfl
    | 32, _ => rfl
    | 33, _ => rfl
    | 34, _ => rfl
    | 35, _ => rfl
    | 36, _ => rfl
    | 37, _ => rfl
    | 38, _ => rfl
    | 39, _ => rfl
    | 40, _ => rfl
    | 41, _ => rfl
    | _ + 42, _ => rfl
  | 2, _ => fun k h => match k, h with
    | 0, h => absurd (by decide) h
    | 1, h => absurd (by decide) h
    | 2, _ => rfl
    | 3, _ => rfl
    | 4, _ => rfl
    | 5, _ => rfl
    | 6, _ => rfl
    | 7, _ => rfl
    | 8, _ => rfl
    | 9, _ => rfl
    | 10, _ => rfl
    | 11, _ => rfl
    | 12, _ => rfl
    | 13, _ => rfl
    | 14, _ => rfl
    | 15, _ => rfl
    | 16, _ => rfl
    | 17, _ => rfl
    | 18, h => absurd (by decide) h
    | 19, h => absurd (by decide) h
    | 20, _ => rfl
    | 21, _ => rfl
    | 22, _ => rfl
    | 23, _ => rfl
    | 24, _ => rfl
    | 25, _ => rfl
    | 26, _ => rfl
    | 27, _ => rfl
    | 28, _ => rfl
    | 29, _ => rfl
    | 30, _ => rfl
    | 31, _ => rfl
    | 32, _ => rfl
    | 33, _ => rfl
    | 34, _ => rfl
    | 35, _ => rfl
    | 36, _ => rfl
    | 37, _ => rfl
    | 38, _ => rfl
    | 39, _ => rfl
    | 40, _ => rfl
    | 41, _ => rfl
    | _ + 42, _ => rfl
  | 3, _ => fun k h => match k, h with
    | 0, h => absurd (by decide) h
    | 1, h => absurd (by decide) h
    | 2, _ => rfl
    | 3, _ => rfl
    | 4, _ => rfl
    | 5, _ => rfl
    | 6, _ => rfl
    | 7, _ => rfl
    | 8, _ => rfl
    | 9, _ => rfl
    | 10, _ => rfl
    | 11, _ => rfl
    | 12, _ => rfl
    | 13, _ => rfl
    | 14, _ => rfl
    | 15, _ => rfl
    | 16, _ => rfl
    | 17, _ => rfl
    | 18, _ => rfl
    | 19, _ => rfl
    | 20, _ => rfl
    | 21, _ => rfl
    | 22, _ => rfl
    | 23, _ => rfl
    | 24, _ => rfl
    | 25, _ => rfl
    | 26, h => absurd (by decide) h
    | 27, h => absurd (by decide) h
    | 28, _ => rfl
    | 29, _ => rfl
    | 30, _ => rfl
    | 31, _ => rfl
    | 32, _ => rfl
    | 33, _ => rfl
    | 34, _ => rfl
    | 35, _ => rfl
    | 36, _ => rfl
    | 37, _ => rfl
    | 38, _ => rfl
    | 39, _ => rfl
    | 40, _ => rfl
    | 41, _ => rfl
    | _ + 42, _ => rfl
end ClassWorld
