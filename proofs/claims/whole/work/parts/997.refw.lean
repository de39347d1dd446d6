/-- the reference's cells -/
def RW (cI cJ cB cZ cN : ClassId) (ha NA ND : Nat → Nat) (r : RS) : va_W := xw cI cJ cB cZ cN ha NA r.rows r.cols r.prime r.small r.pivots r.fr r.fc r.sm r.flds r.rcs r.els r.nb r.kn r.rks r.rk r.sg r.ord r.szs r.cf r.cc r.so ++ po cI NA ND r.pn r.pm r.pd
section RefWorld
variable {cI cJ cB cZ cN : ClassId} {ha NA ND : Nat → Nat} {r r' : RS}
theorem rw_len : (RW cI cJ cB cZ cN ha NA ND r).length = 421 := by
  unfold RW
  rw [List.length_append, po_len]; rfl
theorem po_adr {pn pm pn' pm' : Nat → Int32} {pd pd' : Nat → Nat → Int32} (k : Nat) : ((po cI NA ND pn' pm' pd')[k]?).map Prod.fst = ((po cI NA ND pn pm pd)[k]?).map Prod.fst := by
  unfold po
  rw [List.getElem?_map, List.getElem?_map]
  cases (List.range 400)[k]? with
  | none => rfl
  | some j => simp only [Option.map_some]; split <;> rfl
theorem rw_adr (k : Nat) : ((RW cI cJ cB cZ cN ha NA ND r')[k]?).map Prod.fst = ((RW cI cJ cB cZ cN ha NA ND r)[k]?).map Prod.fst := match k with
  | 0 => rfl
  | 1 => rfl
  | 2 => rfl
  | 3 => rfl
  | 4 => rfl
  | 5 => rfl
  | 6 => rfl
  | 7 => rfl
  | 8 => rfl
  | 9 => rfl
  | 10 => rfl
  | 11 => rfl
  | 12 => rfl
  | 13 => rfl
  | 14 => rfl
  | 15 => rfl
  | 16 => rfl
  | 17 => rfl
  | 18 => rfl
  | 19 => rfl
  | 20 => rfl
  | k + 21 => po_adr k
def rtut (r : RS) (u : Int32 × Int32 × Int32 × (Nat → Int32) × (Nat → Int32) × (Nat → Int32) × (Nat → Int32) × (Nat → Int32) × (Nat → Int32) × (Nat → Int32) × (Nat → Int32) × (Nat → Int32) × (Nat → Int32) × (Nat → Int32) × (Nat → Nat → Int32) × (Nat → Int64) × (Nat → Int64)) : RS := (RS.mk' u.1 u.2.1 u.2.2.1 u.2.2.2.1 u.2.2.2.2.1 u.2.2.2.2.2.1 u.2.2.2.2.2.2.1 u.2.2.2.2.2.2.2.1 r.flds r.rcs r.els r.nb u.2.2.2.2.2.2.2.2.1 u.2.2.2.2.2.2.2.2.2.1 u.2.2.2.2.2.2.2.2.2.2.1 u.2.2.2.2.2.2.2.2.2.2.2.1 r.ord r.szs u.2.2.2.2.2.2.2.2.2.2.2.2.2.2.2.1 u.2.2.2.2.2.2.2.2.2.2.2.2.2.2.2.2 r.so u.2.2.2.2.2.2.2.2.2.2.2.2.1 u.2.2.2.2.2.2.2.2.2.2.2.2.2.1 u.2.2.2.2.2.2.2.2.2.2.2.2.2.2.1)
def rbel (r : RS) (u : Int32 × Int32 × Int32 × (Nat → Int32) × (Nat → Int32) × (Nat → Int32) × (Nat → Int32) × (Nat → Int32) × (Nat → Int32) × (Nat → Int32) × (Nat → Int32) × (Nat → Int32) × (Nat → Int32) × (Nat → Int32) × (Nat → Nat → Int32) × (Nat → Int32)) : RS := (RS.mk' u.1 u.2.1 u.2.2.1 u.2.2.2.1 u.2.2.2.2.1 u.2.2.2.2.2.1 u.2.2.2.2.2.2.1 u.2.2.2.2.2.2.2.1 r.flds r.rcs r.els r.nb u.2.2.2.2.2.2.2.2.1 u.2.2.2.2.2.2.2.2.2.1 u.2.2.2.2.2.2.2.2.2.2.1 u.2.2.2.2.2.2.2.2.2.2.2.1 r.ord r.szs r.cf r.cc u.2.2.2.2.2.2.2.2.2.2.2.2.2.2.2 u.2.2.2.2.2.2.2.2.2.2.2.2.1 u.2.2.2.2.2.2.2.2.2.2.2.2.2.1 u.2.2.2.2.2.2.2.2.2.2.2.2.2.2.1)
end RefWorld
def wRb (cI cZ : ClassId) (ha NA : Nat → Nat) (r : RS) : va_W := [(ha 0, .inr (6, [.ref (NA 192), .ref (NA 193), .ref (NA 194), .ref (NA 195), .ref (NA 196), .ref (NA 197), .ref (NA 198), .ref (NA 199), .ref (ha 1), .ref (ha 2), .int r.rows, .int r.cols, .int r.prime, .ref (ha 3), .ref (ha 4), .ref (ha 5), .ref (ha 6), .ref (ha 7), .ref (ha 8), .ref (ha 9), .ref (ha 10), .ref (ha 11), .ref (ha 12), .ref (ha 13), .ref (ha 14), .ref (ha 15), .ref (ha 16), .ref (ha 17), .ref (ha 18), .ref (ha 19), .ref (ha 20)])), (ha 8, .inl (cI, 4, .inl r.flds)), (ha 9, .inl (cI, 4, .inl r.rcs)), (ha 10, .inl (cI, 4, .inl r.els)), (ha 12, .inl (cZ, 4, .inl r.kn)), (ha 11, .inl (cI, 576, .inl r.nb))]
def wRp (cI cZ : ClassId) (ha NA : Nat → Nat) (r : RS) : va_W := [(ha 0, .inr (6, [.ref (NA 192), .ref (NA 193), .ref (NA 194), .ref (NA 195), .ref (NA 196), .ref (NA 197), .ref (NA 198), .ref (NA 199), .ref (ha 1), .ref (ha 2), .int r.rows, .int r.cols, .int r.prime, .ref (ha 3), .ref (ha 4), .ref (ha 5), .ref (ha 6), .ref (ha 7), .ref (ha 8), .ref (ha 9), .ref (ha 10), .ref (ha 11), .ref (ha 12), .ref (ha 13), .ref (ha 14), .ref (ha 15), .ref (ha 16), .ref (ha 17), .ref (ha 18), .ref (ha 19), .ref (ha 20)])), (ha 9, .inl (cI, 4, .inl r.rcs)), (ha 10, .inl (cI, 4, .inl r.els)), (ha 12, .inl (cZ, 4, .inl r.kn)), (ha 11, .inl (cI, 576, .inl r.nb))]
def wRc (cI cZ : ClassId) (ha NA : Nat → Nat) (r : RS) : va_W := [(ha 0, .inr (6, [.ref (NA 192), .ref (NA 193), .ref (NA 194), .ref (NA 195), .ref (NA 196), .ref (NA 197), .ref (NA 198), .ref (NA 199), .ref (ha 1), .ref (ha 2), .int r.rows, .int r.cols, .int r.prime, .ref (ha 3), .ref (ha 4), .ref (ha 5), .ref (ha 6), .ref (ha 7), .ref (ha 8), .ref (ha 9), .ref (ha 10), .ref (ha 11), .ref (ha 12), .ref (ha 13), .ref (ha 14), .ref (ha 15), .ref (ha 16), .ref (ha 17), .ref (ha 18), .ref (ha 19), .ref (ha 20)])), (ha 10, .inl (cI, 4, .inl r.els))]
section RefWorld2
variable {cI cJ cB cZ cN : ClassId} {ha NA ND : Nat → Nat} {r r' : RS}
theorem rw_b : ([0, 8, 9, 10, 12, 11] : List Nat).map (fun i => (RW cI cJ cB cZ cN ha NA ND r)[i]?) = (wRb cI cZ ha NA r).map some := rfl
theorem rw_p : ([0, 9, 10, 12, 11] : List Nat).map (fun i => (RW cI cJ cB cZ cN ha NA ND r)[i]?) = (wRp cI cZ ha NA r).map some := rfl
theorem rw_c : ([0, 10] : List Nat).map (fun i => (RW cI cJ cB cZ cN ha NA ND r)[i]?) = (wRc cI cZ ha NA r).map some := rfl
theorem off_rb {u : (Nat → Int32) × (Nat → Int32) × (Nat → Int32) × (Nat → Int32) × (Nat → Int32)} : ∀ k : Nat, k ∉ ([0, 8, 9, 10, 12, 11] : List Nat) → (RW cI cJ cB cZ cN ha NA ND (rbeg r u))[k]? = (RW cI cJ cB cZ cN ha NA ND r)[k]? := fun k h => match k, h with
  | 0, h => absurd (by decide) h
  | 1, _ => rfl
  | 2, _ => rfl
  | 3, _ => rfl
  | 4, _ => rfl
  | 5, _ => rfl
  | 6, _ => rfl
  | 7, _ => rfl
  | 8, h => absurd (by decide) h
  | 9, h => absurd (by decide) h
  | 10, h => absurd (by decide) h
  | 11, h => absurd (by decide) h
  | 12, h => absurd (by decide) h
  | 13, _ => rfl
  | 14, _ => rfl
  | 15, _ => rfl
  | 16, _ => rfl
  | 17, _ => rfl
  | 18, _ => rfl
  | 19, _ => rfl
  | 20, _ => rfl
  | _ + 21, _ => rfl
theorem off_rp {u : (Nat → Int32) × (Nat → Int32)} : ∀ k : Nat, k ∉ ([0, 9, 10, 12, 11] : List Nat) → (RW cI cJ cB cZ cN ha NA ND (rput r u))[k]? = (RW cI cJ cB cZ cN ha NA ND r)[k]? := fun k h => match k, h with
  | 0, h => absurd (by decide) h
  | 1, _ => rfl
  | 2, _ => rfl
  | 3, _ => rfl
  | 4, _ => rfl
  | 5, _ => rfl
  | 6, _ => rfl
  | 7, _ => rfl
  | 8, _ => rfl
  | 9, h => absurd (by decide) h
  | 10, h => absurd (by decide) h
  | 11, h => absurd (by decide) h
  | 12, h => absurd (by decide) h
  | 13, _ => rfl
  | 14, _ => rfl
  | 15, _ => rfl
  | 16, _ => rfl
  | 17, _ => rfl
  | 18, _ => rfl
  | 19, _ => rfl
  | 20, _ => rfl
  | _ + 21, _ => rfl
end RefWorld2
/-! no such table: both answer alike and nothing changes -/
section NoTable
variable {r : RS} {x : Int32}
theorem no_learn (h : ¬ ∃ t, t < 4 ∧ x = nI t) : f_R_learn r.rows r.cols r.prime r.small r.pivots r.fr r.fc r.sm r.flds r.rcs r.els r.nb r.kn r.rks r.rk r.sg r.ord r.szs r.pn r.pm r.pd x = some (0, r.rows, r.cols, r.prime, r.small, r.pivots, r.fr, r.fc, r.sm, r.kn, r.rks, r.rk, r.sg, r.pn, r.pm, r.pd) := by
  unfold f_R_learn
  rw [(tan_ok h).2]
  rfl
theorem no_Bbegin (h : ¬ ∃ t, t < 4 ∧ x = nI t) : f_B_beginN x = some 0 := by
  unfold f_B_beginN
  rw [(tan_ok h).1]
  rfl
theorem no_Bput (h : ¬ ∃ t, t < 4 ∧ x = nI t) : f_B_putN x = some 0 := by
  unfold f_B_putN
  rw [(tan_ok h).1]
  rfl
theorem no_Bcolumns (h : ¬ ∃ t, t < 4 ∧ x = nI t) : f_B_columnsN x = some (-1) := by
  unfold f_B_columnsN
  rw [(tan_ok h).1]
  rfl
theorem no_Brank (h : ¬ ∃ t, t < 4 ∧ x = nI t) : f_B_rankN x = some (-1) := by
  unfold f_B_rankN
  rw [(tan_ok h).1]
  rfl
theorem no_Bcount (h : ¬ ∃ t, t < 4 ∧ x = nI t) : f_B_countN x = some (-1) := by
  unfold f_B_countN
  rw [(tan_ok h).1]
  rfl
theorem no_Bmember (h : ¬ ∃ t, t < 4 ∧ x = nI t) : f_B_memberN x = some (-1) := by
  unfold f_B_memberN
  rw [(tan_ok h).1]
  rfl
theorem no_Btutte (h : ¬ ∃ t, t < 4 ∧ x = nI t) : f_B_tutteN x = some 0 := by
  unfold f_B_tutteN
  rw [(tan_ok h).1]
  rfl
theorem no_Bsign (h : ¬ ∃ t, t < 4 ∧ x = nI t) : f_B_signN x = some 2 := by
  unfold f_B_signN
  rw [(tan_ok h).1]
  rfl
theorem no_Bbelow (h : ¬ ∃ t, t < 4 ∧ x = nI t) : f_B_belowN x = some (-1) := by
  unfold f_B_belowN
  rw [(tan_ok h).1]
  rfl
theorem no_Rbegin (h : ¬ ∃ t, t < 4 ∧ x = nI t) (a0 a1 a2 : Int32) : f_R_begin 4 r.flds 4 r.rcs 4 r.els 4 r.kn 576 r.nb x a0 a1 a2 = some (0, r.flds, r.rcs, r.els, r.kn, r.nb) := by
  unfold f_R_begin
  rw [(tan_ok h).2]
  rfl
theorem no_Rput (h : ¬ ∃ t, t < 4 ∧ x = nI t) (a0 a1 a2 : Int32) : f_R_put 4 r.rcs 4 r.els 4 r.kn 576 r.nb x a0 a1 a2 = some (0, r.kn, r.nb) := by
  unfold f_R_put
  rw [(tan_ok h).2]
  rfl
theorem no_Rcolumns (h : ¬ ∃ t, t < 4 ∧ x = nI t) : f_R_columns 4 r.els x = some (-1) := by
  unfold f_R_columns
  rw [(tan_ok h).2]
  rfl
theorem no_Rrank (h : ¬ ∃ t, t < 4 ∧ x = nI t) (a0 : Int32) : f_R_rank r.rows r.cols r.prime r.small r.pivots r.fr r.fc r.sm r.flds r.rcs r.els r.nb r.kn r.rks r.rk r.sg r.ord r.szs r.pn r.pm r.pd x a0 = some ((-1), r.rows, r.cols, r.prime, r.small, r.pivots, r.fr, r.fc, r.sm, r.kn, r.rks, r.rk, r.sg, r.pn, r.pm, r.pd) := by
  unfold f_R_rank
  rw [no_learn h]
  rfl
theorem no_Rcount (h : ¬ ∃ t, t < 4 ∧ x = nI t) (a0 : Int32) : f_R_count r.rows r.cols r.prime r.small r.pivots r.fr r.fc r.sm r.flds r.rcs r.els r.nb r.kn r.rks r.rk r.sg r.ord r.szs r.pn r.pm r.pd x a0 = some ((-1), r.rows, r.cols, r.prime, r.small, r.pivots, r.fr, r.fc, r.sm, r.kn, r.rks, r.rk, r.sg, r.pn, r.pm, r.pd) := by
  unfold f_R_count
  rw [no_learn h]
  rfl
theorem no_Rmember (h : ¬ ∃ t, t < 4 ∧ x = nI t) (a0 a1 : Int32) : f_R_member r.rows r.cols r.prime r.small r.pivots r.fr r.fc r.sm r.flds r.rcs r.els r.nb r.kn r.rks r.rk r.sg r.ord r.szs r.pn r.pm r.pd x a0 a1 = some ((-1), r.rows, r.cols, r.prime, r.small, r.pivots, r.fr, r.fc, r.sm, r.kn, r.rks, r.rk, r.sg, r.pn, r.pm, r.pd) := by
  unfold f_R_member
  rw [no_learn h]
  rfl
theorem no_Rtutte (h : ¬ ∃ t, t < 4 ∧ x = nI t) (a0 a1 : Int32) : f_R_tutte r.rows r.cols r.prime r.small r.pivots r.fr r.fc r.sm r.flds r.rcs r.els r.nb r.kn r.rks r.rk r.sg r.ord r.szs r.cf r.cc r.pn r.pm r.pd x a0 a1 = some (0, r.rows, r.cols, r.prime, r.small, r.pivots, r.fr, r.fc, r.sm, r.kn, r.rks, r.rk, r.sg, r.pn, r.pm, r.pd, r.cf, r.cc) := by
  unfold f_R_tutte
  rw [no_learn h]
  rfl
theorem no_Rsign (h : ¬ ∃ t, t < 4 ∧ x = nI t) (a0 : Int32) : f_R_sign r.rows r.cols r.prime r.small r.pivots r.fr r.fc r.sm r.flds r.rcs r.els r.nb r.kn r.rks r.rk r.sg r.ord r.szs r.pn r.pm r.pd x a0 = some (2, r.rows, r.cols, r.prime, r.small, r.pivots, r.fr, r.fc, r.sm, r.kn, r.rks, r.rk, r.sg, r.pn, r.pm, r.pd) := by
  unfold f_R_sign
  rw [no_learn h]
  rfl
theorem no_Rbelow (h : ¬ ∃ t, t < 4 ∧ x = nI t) (a0 : Int32) : f_R_below r.rows r.cols r.prime r.small r.pivots r.fr r.fc r.sm r.flds r.rcs r.els r.nb r.kn r.rks r.rk r.sg r.ord r.szs r.so r.pn r.pm r.pd x a0 = some ((-1), r.rows, r.cols, r.prime, r.small, r.pivots, r.fr, r.fc, r.sm, r.kn, r.rks, r.rk, r.sg, r.pn, r.pm, r.pd, r.so) := by
  unfold f_R_below
  rw [no_learn h]
  rfl
end NoTable
