/-! both systems between calls -/
def KS : Type := Int32 × (Nat → Int32) × (Nat → Int32) × (Nat → Int32) × (Nat → Int64) × (Nat → Int64) × (Nat → Int64) × (Nat → Int32) × (Nat → Int32) × (Nat → Int32) × (Nat → Int32) × (Nat → Int32) × (Nat → Int32) × (Nat → Nat → Int32) × (Nat → Nat → Int32) × (Nat → Nat → Int32) × (Nat → Nat → Int32) × (Nat → Nat → Int32) × (Nat → Nat → Int32)
def KS.occ (s : KS) : Int32 := s.1
def KS.sets (s : KS) : Nat → Int32 := s.2.1
def KS.starts (s : KS) : Nat → Int32 := s.2.2.1
def KS.nexts (s : KS) : Nat → Int32 := s.2.2.2.1
def KS.lo (s : KS) : Nat → Int64 := s.2.2.2.2.1
def KS.mi (s : KS) : Nat → Int64 := s.2.2.2.2.2.1
def KS.hi (s : KS) : Nat → Int64 := s.2.2.2.2.2.2.1
def KS.fld (s : KS) : Nat → Int32 := s.2.2.2.2.2.2.2.1
def KS.rcn (s : KS) : Nat → Int32 := s.2.2.2.2.2.2.2.2.1
def KS.ccn (s : KS) : Nat → Int32 := s.2.2.2.2.2.2.2.2.2.1
def KS.std (s : KS) : Nat → Int32 := s.2.2.2.2.2.2.2.2.2.2.1
def KS.scc (s : KS) : Nat → Int32 := s.2.2.2.2.2.2.2.2.2.2.2.1
def KS.sfr (s : KS) : Nat → Int32 := s.2.2.2.2.2.2.2.2.2.2.2.2.1
def KS.num (s : KS) : Nat → Nat → Int32 := s.2.2.2.2.2.2.2.2.2.2.2.2.2.1
def KS.rk (s : KS) : Nat → Nat → Int32 := s.2.2.2.2.2.2.2.2.2.2.2.2.2.2.1
def KS.sg (s : KS) : Nat → Nat → Int32 := s.2.2.2.2.2.2.2.2.2.2.2.2.2.2.2.1
def KS.mem (s : KS) : Nat → Nat → Int32 := s.2.2.2.2.2.2.2.2.2.2.2.2.2.2.2.2.1
def KS.sst (s : KS) : Nat → Nat → Int32 := s.2.2.2.2.2.2.2.2.2.2.2.2.2.2.2.2.2.1
def KS.df (s : KS) : Nat → Nat → Int32 := s.2.2.2.2.2.2.2.2.2.2.2.2.2.2.2.2.2.2
def KS.mk' (occ : Int32) (sets : Nat → Int32) (starts : Nat → Int32) (nexts : Nat → Int32) (lo : Nat → Int64) (mi : Nat → Int64) (hi : Nat → Int64) (fld : Nat → Int32) (rcn : Nat → Int32) (ccn : Nat → Int32) (std : Nat → Int32) (scc : Nat → Int32) (sfr : Nat → Int32) (num : Nat → Nat → Int32) (rk : Nat → Nat → Int32) (sg : Nat → Nat → Int32) (mem : Nat → Nat → Int32) (sst : Nat → Nat → Int32) (df : Nat → Nat → Int32) : KS := (occ, sets, starts, nexts, lo, mi, hi, fld, rcn, ccn, std, scc, sfr, num, rk, sg, mem, sst, df)
def RS : Type := Int32 × Int32 × Int32 × (Nat → Int32) × (Nat → Int32) × (Nat → Int32) × (Nat → Int32) × (Nat → Int32) × (Nat → Int32) × (Nat → Int32) × (Nat → Int32) × (Nat → Int32) × (Nat → Int32) × (Nat → Int32) × (Nat → Int32) × (Nat → Int32) × (Nat → Int32) × (Nat → Int32) × (Nat → Int64) × (Nat → Int64) × (Nat → Int32) × (Nat → Int32) × (Nat → Int32) × (Nat → Nat → Int32)
def RS.rows (s : RS) : Int32 := s.1
def RS.cols (s : RS) : Int32 := s.2.1
def RS.prime (s : RS) : Int32 := s.2.2.1
def RS.small (s : RS) : Nat → Int32 := s.2.2.2.1
def RS.pivots (s : RS) : Nat → Int32 := s.2.2.2.2.1
def RS.fr (s : RS) : Nat → Int32 := s.2.2.2.2.2.1
def RS.fc (s : RS) : Nat → Int32 := s.2.2.2.2.2.2.1
def RS.sm (s : RS) : Nat → Int32 := s.2.2.2.2.2.2.2.1
def RS.flds (s : RS) : Nat → Int32 := s.2.2.2.2.2.2.2.2.1
def RS.rcs (s : RS) : Nat → Int32 := s.2.2.2.2.2.2.2.2.2.1
def RS.els (s : RS) : Nat → Int32 := s.2.2.2.2.2.2.2.2.2.2.1
def RS.nb (s : RS) : Nat → Int32 := s.2.2.2.2.2.2.2.2.2.2.2.1
def RS.kn (s : RS) : Nat → Int32 := s.2.2.2.2.2.2.2.2.2.2.2.2.1
def RS.rks (s : RS) : Nat → Int32 := s.2.2.2.2.2.2.2.2.2.2.2.2.2.1
def RS.rk (s : RS) : Nat → Int32 := s.2.2.2.2.2.2.2.2.2.2.2.2.2.2.1
def RS.sg (s : RS) : Nat → Int32 := s.2.2.2.2.2.2.2.2.2.2.2.2.2.2.2.1
def RS.ord (s : RS) : Nat → Int32 := s.2.2.2.2.2.2.2.2.2.2.2.2.2.2.2.2.1
def RS.szs (s : RS) : Nat → Int32 := s.2.2.2.2.2.2.2.2.2.2.2.2.2.2.2.2.2.1
def RS.cf (s : RS) : Nat → Int64 := s.2.2.2.2.2.2.2.2.2.2.2.2.2.2.2.2.2.2.1
def RS.cc (s : RS) : Nat → Int64 := s.2.2.2.2.2.2.2.2.2.2.2.2.2.2.2.2.2.2.2.1
def RS.so (s : RS) : Nat → Int32 := s.2.2.2.2.2.2.2.2.2.2.2.2.2.2.2.2.2.2.2.2.1
def RS.pn (s : RS) : Nat → Int32 := s.2.2.2.2.2.2.2.2.2.2.2.2.2.2.2.2.2.2.2.2.2.1
def RS.pm (s : RS) : Nat → Int32 := s.2.2.2.2.2.2.2.2.2.2.2.2.2.2.2.2.2.2.2.2.2.2.1
def RS.pd (s : RS) : Nat → Nat → Int32 := s.2.2.2.2.2.2.2.2.2.2.2.2.2.2.2.2.2.2.2.2.2.2.2
def RS.mk' (rows : Int32) (cols : Int32) (prime : Int32) (small : Nat → Int32) (pivots : Nat → Int32) (fr : Nat → Int32) (fc : Nat → Int32) (sm : Nat → Int32) (flds : Nat → Int32) (rcs : Nat → Int32) (els : Nat → Int32) (nb : Nat → Int32) (kn : Nat → Int32) (rks : Nat → Int32) (rk : Nat → Int32) (sg : Nat → Int32) (ord : Nat → Int32) (szs : Nat → Int32) (cf : Nat → Int64) (cc : Nat → Int64) (so : Nat → Int32) (pn : Nat → Int32) (pm : Nat → Int32) (pd : Nat → Nat → Int32) : RS := (rows, cols, prime, small, pivots, fr, fc, sm, flds, rcs, els, nb, kn, rks, rk, sg, ord, szs, cf, cc, so, pn, pm, pd)
def kup {α : Type} (f : Nat → α) (k : Nat) (v : α) : Nat → α := fun j => if j = k then v else f j
theorem kup_s {α : Type} {f : Nat → α} {k : Nat} {v : α} : kup f k v k = v := if_pos rfl
theorem kup_n {α : Type} {f : Nat → α} {k j : Nat} {v : α} (h : j ≠ k) : kup f k v j = f j := if_neg h
abbrev cof (s : KS) (t : Nat) : C15 := (s.occ, s.sets, s.starts, s.nexts, s.lo, s.mi, s.hi, s.std t, s.scc t, s.sfr t, s.rk t, s.sg t, s.mem t, s.sst t, s.df t)
def kset (s : KS) (t : Nat) (c : C15) : KS := (KS.mk' (c.1) (c.2.1) (c.2.2.1) (c.2.2.2.1) (c.2.2.2.2.1) (c.2.2.2.2.2.1) (c.2.2.2.2.2.2.1) s.fld s.rcn s.ccn (kup s.std t (c_std c)) (kup s.scc t (c_scc c)) (kup s.sfr t (c_sfr c)) s.num (kup s.rk t (c_rk c)) (kup s.sg t (c_sg c)) (kup s.mem t (c_mem c)) (kup s.sst t (c_sst c)) (kup s.df t (c_df c)))
def rset (r : RS) (b : R15) : RS := (RS.mk' (b.1) (b.2.1) (b.2.2.1) (b.2.2.2.1) (b.2.2.2.2.1) (b.2.2.2.2.2.1) (b.2.2.2.2.2.2.1) (b.2.2.2.2.2.2.2.1) r.flds r.rcs r.els r.nb (r_kn b) (r_rks b) (r_rk b) (r_sg b) r.ord r.szs r.cf r.cc r.so (b.2.2.2.2.2.2.2.2.2.2.2.2.1) (b.2.2.2.2.2.2.2.2.2.2.2.2.2.1) (b.2.2.2.2.2.2.2.2.2.2.2.2.2.2))
/-- table t, both ways -/
def JT (s : KS) (r : RS) (t m N rows : Nat) : Prop := FdP m ∧ N ≤ 12 ∧ rows ≤ 12 ∧ s.fld t = nI m ∧ s.rcn t = nI rows ∧ s.ccn t = nI N ∧ CNm m N rows (Nb r.nb t) (s.num t) ∧ (s.std t = 0 ∨ s.std t = 1 ∧ CSt m N rows (s.num t) (cof s t)) ∧ RT1 t r.flds r.rcs r.els r.nb r.kn r.rks r.rk r.sg m N rows
def J0 (s : KS) (r : RS) : Prop := (∃ N0, N0 ≤ 12 ∧ s.occ = nI N0 ∧ OX N0 s.sets s.starts) ∧ (∀ k, k < 4096 → r.ord k = nI (osR k)) ∧ (∀ S, S < 4096 → r.szs S = nI (cn S)) ∧ PI r.pn r.pm r.pd
def J (s : KS) (r : RS) : Prop := J0 s r ∧ ∀ t, t < 4 → ∃ m N rows, JT s r t m N rows
theorem J_CSs {s : KS} {r : RS} {t m N rows : Nat} (h0 : J0 s r) (h : JT s r t m N rows) : CSs m N rows (s.num t) (cof s t) := ⟨h0.1, h.2.2.2.2.2.2.2.1⟩
theorem J_ask {s : KS} {r : RS} {t m N rows : Nat} {c : C15} {b : R15} (hJ : J s r) (ht : t < 4) (h : JT s r t m N rows) (hc : CSs m N rows (s.num t) c) (hb : RAf m N rows t r.nb r.kn r.rks r.rk r.sg b) : J (kset s t c) (rset r b) := by
  obtain ⟨⟨-, o2, o3, -⟩, hT⟩ := hJ
  obtain ⟨b1, b2, b3, b4, b5⟩ := hb
  refine ⟨⟨hc.1, o2, o3, b5⟩, fun t' ht' => ?_⟩
  by_cases q : t' = t
  · subst q
    obtain ⟨h1, h2, h3, h4, h5, h6, h7, h8, h9⟩ := h
    refine ⟨m, N, rows, h1, h2, h3, h4, h5, h6, h7, ?_, h9.1, h9.2.1, h9.2.2.1, h9.2.2.2.1, Or.inr ⟨b2, b1⟩⟩
    show kup s.std t' (c_std c) t' = 0 ∨ kup s.std t' (c_std c) t' = 1 ∧ _
    rw [kup_s]
    rcases hc.2 with g | ⟨g1, R, cv, os, ρ, g2, g3, g4⟩
    · exact Or.inl g
    · refine Or.inr ⟨g1, R, cv, os, ρ, ?_, ?_, ?_⟩
      · show Lc m N rows _ R cv os ρ (kup s.rk t' _ t') (kup s.sg t' _ t') (kup s.mem t' _ t') (kup s.sst t' _ t') (kup s.df t' _ t')
        rw [kup_s, kup_s, kup_s, kup_s, kup_s]; exact g2
      · show kup s.scc t' _ t' = _
        rw [kup_s]; exact g3
      · show kup s.sfr t' _ t' = _
        rw [kup_s]; exact g4
  · obtain ⟨m', N', rows', h1, h2, h3, h4, h5, h6, h7, h8, h9⟩ := hT t' ht'
    have hN := h.2.1
    have hM := p2_12 hN
    have hM' := p2_12 h2
    refine ⟨m', N', rows', h1, h2, h3, h4, h5, h6, h7, ?_, h9.1, h9.2.1, h9.2.2.1, h9.2.2.2.1, ?_⟩
    · show kup s.std t (c_std c) t' = 0 ∨ kup s.std t (c_std c) t' = 1 ∧ _
      rw [kup_n q]
      rcases h8 with g | ⟨g1, R, cv, os, ρ, g2, g3, g4⟩
      · exact Or.inl g
      · refine Or.inr ⟨g1, R, cv, os, ρ, ?_, ?_, ?_⟩
        · show Lc m' N' rows' _ R cv os ρ (kup s.rk t _ t') (kup s.sg t _ t') (kup s.mem t _ t') (kup s.sst t _ t') (kup s.df t _ t')
          rw [kup_n q, kup_n q, kup_n q, kup_n q, kup_n q]; exact g2
        · show kup s.scc t _ t' = _
          rw [kup_n q]; exact g3
        · show kup s.sfr t _ t' = _
          rw [kup_n q]; exact g4
    · rcases h9.2.2.2.2 with g | ⟨g1, R, cv, g2, g3⟩
      · exact Or.inl (by show r_kn b t' = 0; rw [(b3 t' q).1]; exact g)
      · refine Or.inr ⟨by show r_kn b t' = 1; rw [(b3 t' q).1]; exact g1, R, cv, Lr_keep g2 (fun S hS => ?_) (fun S hS => ?_), by show r_rks b t' = nI R; rw [(b3 t' q).2]; exact g3⟩
        · exact (b4 _ (fun S' hS' => by omega)).1
        · exact (b4 _ (fun S' hS' => by omega)).2
theorem Nb_keep {nb nb' : Nat → Int32} {t t' : Nat} (h : ∀ q, (∀ k, k < 144 → q ≠ 144 * t + k) → nb' q = nb q) (hne : t' ≠ t) {i j : Nat} (hi : i < 12) (hj : j < 12) : Nb nb' t' i j = Nb nb t' i j := by
  unfold Nb
  rw [h _ (fun k hk => by omega)]
/-- another table is not touched by begin or put -/
theorem JT_keep {s s' : KS} {r r' : RS} {t' m N rows : Nat} (h : JT s r t' m N rows) (e1 : s'.fld t' = s.fld t') (e2 : s'.rcn t' = s.rcn t') (e3 : s'.ccn t' = s.ccn t') (e4 : s'.num t' = s.num t') (e5 : s'.std t' = s.std t') (e6 : s'.scc t' = s.scc t') (e7 : s'.sfr t' = s.sfr t') (e8 : s'.rk t' = s.rk t') (e9 : s'.sg t' = s.sg t') (e10 : s'.mem t' = s.mem t') (e11 : s'.sst t' = s.sst t') (e12 : s'.df t' = s.df t') (f1 : r'.flds t' = r.flds t') (f2 : r'.rcs t' = r.rcs t') (f3 : r'.els t' = r.els t') (f4 : r'.kn t' = r.kn t') (f5 : r'.rks = r.rks) (f6 : r'.rk = r.rk) (f7 : r'.sg = r.sg) (f8 : ∀ i j, i < 12 → j < 12 → Nb r'.nb t' i j = Nb r.nb t' i j) : JT s' r' t' m N rows := by
  obtain ⟨h1, h2, h3, h4, h5, h6, h7, h8, g1, g2, g3, g4, g5⟩ := h
  refine ⟨h1, h2, h3, by rw [e1]; exact h4, by rw [e2]; exact h5, by rw [e3]; exact h6, fun i j hi hj => by rw [e4, f8 i j (by omega) (by omega)]; exact h7 i j hi hj, ?_, by rw [f1]; exact g1, by rw [f2]; exact g2, by rw [f3]; exact g3, fun i j hi hj => by rw [f8 i j (by omega) (by omega)]; exact g4 i j hi hj, ?_⟩
  · rw [e5]
    rcases h8 with g | ⟨g1, R, cv, os, ρ, g2, g3, g4⟩
    · exact Or.inl g
    · refine Or.inr ⟨g1, R, cv, os, ρ, ?_, ?_, ?_⟩
      · show Lc m N rows (acl (s'.num t')) R cv os ρ (s'.rk t') (s'.sg t') (s'.mem t') (s'.sst t') (s'.df t')
        rw [e4, e8, e9, e10, e11, e12]; exact g2
      · show s'.scc t' = _
        rw [e6]; exact g3
      · show s'.sfr t' = _
        rw [e7]; exact g4
  · rw [f4, f5, f6, f7]
    rcases g5 with g | ⟨a1, R, cv, ⟨⟨pv, E, a2, a3⟩, a4⟩, a5⟩
    · exact Or.inl g
    · refine Or.inr ⟨a1, R, cv, ⟨⟨pv, E, ?_, a3⟩, a4⟩, a5⟩
      obtain ⟨k1, k2, k3, k4, k5, k6⟩ := a2
      exact ⟨k1, k2, k3, k4, k5, fun w => (k6 w).trans (kill_cg (fun i j hi hj => by rw [f8 i j (by omega) (by omega), Int.sub_self]; exact Int.dvd_zero _))⟩
def kbeg (s : KS) (t : Nat) (a : Int32 × Int32 × Int32 × Int32 × (Nat → Int32)) : KS := (KS.mk' s.occ s.sets s.starts s.nexts s.lo s.mi s.hi (kup s.fld t a.1) (kup s.rcn t a.2.1) (kup s.ccn t a.2.2.1) (kup s.std t a.2.2.2.1) s.scc s.sfr (kup s.num t a.2.2.2.2) s.rk s.sg s.mem s.sst s.df)
def rbeg (r : RS) (b : (Nat → Int32) × (Nat → Int32) × (Nat → Int32) × (Nat → Int32) × (Nat → Int32)) : RS := (RS.mk' r.rows r.cols r.prime r.small r.pivots r.fr r.fc r.sm (b.1) (b.2.1) (b.2.2.1) (b.2.2.2.2) (b.2.2.2.1) r.rks r.rk r.sg r.ord r.szs r.cf r.cc r.so r.pn r.pm r.pd)
def kput (s : KS) (t : Nat) (a : (Nat → Int32) × Int32) : KS := (KS.mk' s.occ s.sets s.starts s.nexts s.lo s.mi s.hi s.fld s.rcn s.ccn (kup s.std t a.2) s.scc s.sfr (kup s.num t a.1) s.rk s.sg s.mem s.sst s.df)
def rput (r : RS) (b : (Nat → Int32) × (Nat → Int32)) : RS := (RS.mk' r.rows r.cols r.prime r.small r.pivots r.fr r.fc r.sm r.flds r.rcs r.els (b.2) (b.1) r.rks r.rk r.sg r.ord r.szs r.cf r.cc r.so r.pn r.pm r.pd)
theorem kup_id {α : Type} {f : Nat → α} {k : Nat} : kup f k (f k) = f := by
  funext j
  unfold kup
  by_cases q : j = k
  · rw [if_pos q, q]
  · rw [if_neg q]
def rcc (r : RS) (cf cc : Nat → Int64) : RS := RS.mk' r.rows r.cols r.prime r.small r.pivots r.fr r.fc r.sm r.flds r.rcs r.els r.nb r.kn r.rks r.rk r.sg r.ord r.szs cf cc r.so r.pn r.pm r.pd
def rso (r : RS) (so : Nat → Int32) : RS := RS.mk' r.rows r.cols r.prime r.small r.pivots r.fr r.fc r.sm r.flds r.rcs r.els r.nb r.kn r.rks r.rk r.sg r.ord r.szs r.cf r.cc so r.pn r.pm r.pd
theorem J_cc {s : KS} {r : RS} {cf cc : Nat → Int64} (h : J s r) : J s (rcc r cf cc) := ⟨h.1, fun t ht => h.2 t ht⟩
theorem J_so {s : KS} {r : RS} {so : Nat → Int32} (h : J s r) : J s (rso r so) := ⟨h.1, fun t ht => h.2 t ht⟩
section Steps
variable {s : KS} {r : RS} {t : Nat}
theorem J_begin (hJ : J s r) (ht : t < 4) (f w k : Int32) : ok (f_B_beginV 4 (s.fld t) (s.rcn t) (s.ccn t) (s.std t) 144 (s.num t) (nI t) f w k) (fun a => ok (f_R_begin 4 r.flds 4 r.rcs 4 r.els 4 r.kn 576 r.nb (nI t) f w k) (fun b => a.1 = b.1 ∧ J (kbeg s t a.2) (rbeg r b.2))) := by
  refine ok_mono (q_begin (flds := r.flds) (rcs := r.rcs) (els := r.els) (kn := r.kn) (nb := r.nb) ht f w k) ?_
  intro a ha
  refine ok_mono ha ?_
  rintro b ⟨e1, e2⟩
  refine ⟨e1, ?_⟩
  rcases e2 with ⟨e2, e3⟩ | ⟨m, N, rows, g1, g2, g3, g4, g5, g6, g7, g8, g9, g10, g11, g12, g13, g14, g15⟩
  · have h1 : kbeg s t a.2 = s := by rw [e2]; unfold kbeg; simp only [kup_id]; rfl
    have h2 : rbeg r b.2 = r := by rw [e3]; rfl
    rw [h1, h2]; exact hJ
  · refine ⟨hJ.1, fun t' ht' => ?_⟩
    by_cases q : t' = t
    · subst q
      refine ⟨m, N, rows, g1, g2, g3, ?_, ?_, ?_, ?_, Or.inl ?_, g9, g10, g11, g13, Or.inl g12⟩
      · show kup s.fld t' _ t' = _; rw [kup_s]; exact g4
      · show kup s.rcn t' _ t' = _; rw [kup_s]; exact g5
      · show kup s.ccn t' _ t' = _; rw [kup_s]; exact g6
      · show CNm m N rows _ (kup s.num t' _ t'); rw [kup_s]; exact g8
      · show kup s.std t' _ t' = _; rw [kup_s]; exact g7
    · obtain ⟨m', N', rows', h⟩ := hJ.2 t' ht'
      obtain ⟨k1, k2, k3, k4⟩ := g14 t' q
      exact ⟨m', N', rows', JT_keep h (kup_n q) (kup_n q) (kup_n q) (kup_n q) (kup_n q) rfl rfl rfl rfl rfl rfl rfl k1 k2 k3 k4 rfl rfl rfl (fun i j hi hj => Nb_keep g15 q hi hj)⟩
theorem J_put (hJ : J s r) (ht : t < 4) (w k v : Int32) : ok (f_B_putV 4 (s.fld t) (s.rcn t) (s.ccn t) (s.std t) 144 (s.num t) (nI t) w k v) (fun a => ok (f_R_put 4 r.rcs 4 r.els 4 r.kn 576 r.nb (nI t) w k v) (fun b => a.1 = b.1 ∧ J (kput s t a.2) (rput r b.2))) := by
  obtain ⟨m, N, rows, h1, h2, h3, h4, h5, h6, h7, h8, h9⟩ := hJ.2 t ht
  rw [h4, h5, h6]
  refine ok_mono (q_put (rcs := r.rcs) (els := r.els) (kn := r.kn) (nb := r.nb) h1 h2 h3 ht h9.2.1 h9.2.2.1 h9.2.2.2.1 h7 w k v) ?_
  intro a ha
  refine ok_mono ha ?_
  rintro b ⟨e1, e2⟩
  refine ⟨e1, ?_⟩
  rcases e2 with ⟨e2, e3⟩ | ⟨g1, g2, g3, g4, g5, g6⟩
  · have k1 : kput s t a.2 = s := by rw [e2]; unfold kput; simp only [kup_id]; rfl
    have k2 : rput r b.2 = r := by rw [e3]; rfl
    rw [k1, k2]; exact hJ
  · refine ⟨hJ.1, fun t' ht' => ?_⟩
    by_cases q : t' = t
    · subst q
      refine ⟨m, N, rows, h1, h2, h3, h4, h5, h6, ?_, Or.inl ?_, h9.1, h9.2.1, h9.2.2.1, g4, Or.inl g3⟩
      · show CNm m N rows _ (kup s.num t' _ t'); rw [kup_s]; exact g2
      · show kup s.std t' _ t' = _; rw [kup_s]; exact g1
    · obtain ⟨m', N', rows', h⟩ := hJ.2 t' ht'
      exact ⟨m', N', rows', JT_keep h rfl rfl rfl (kup_n q) (kup_n q) rfl rfl rfl rfl rfl rfl rfl rfl rfl rfl (g5 t' q) rfl rfl rfl (fun i j hi hj => Nb_keep g6 q hi hj)⟩
theorem J_columns (hJ : J s r) (ht : t < 4) : ok (f_B_columnsV 4 (s.ccn t) (nI t)) (fun a => ok (f_R_columns 4 r.els (nI t)) (fun b => a = b)) := by
  obtain ⟨m, N, rows, h1, h2, h3, h4, h5, h6, h7, h8, h9⟩ := hJ.2 t ht
  unfold f_B_columnsV
  refine ok_b0 (tav_ok ht) (ok_some ?_)
  unfold f_R_columns
  refine ok_b1 (is_t ht) ?_
  rintro r1 rfl
  refine ok_if (fun q => absurd q (by decide)) (fun _ => ?_)
  refine ok_in (vp_in_nI ht (by decide)) ?_
  rw [nI_clamp (by omega), h9.2.2.1, h6]
  exact ok_some rfl
theorem J_rank (hJ : J s r) (ht : t < 4) (x : Int32) : ok (f_B_rankV 4 s.occ 4096 s.sets 14 s.starts 13 s.nexts 4096 s.lo 4096 s.mi 4096 s.hi (s.fld t) (s.rcn t) (s.ccn t) (s.std t) 144 (s.num t) (s.scc t) (s.sfr t) 4096 (s.rk t) 4096 (s.sg t) 6868 (s.mem t) 5 (s.sst t) 169 (s.df t) (nI t) x) (fun a => ok (f_R_rank r.rows r.cols r.prime r.small r.pivots r.fr r.fc r.sm r.flds r.rcs r.els r.nb r.kn r.rks r.rk r.sg r.ord r.szs r.pn r.pm r.pd (nI t) x) (fun b => a.1 = b.1 ∧ J (kset s t a.2) (rset r b.2))) := by
  obtain ⟨m, N, rows, hT⟩ := hJ.2 t ht
  have hT' := hT
  obtain ⟨h1, h2, h3, h4, h5, h6, h7, h8, h9⟩ := hT
  rw [h4, h5, h6]
  refine ok_mono (q_rank (c := cof s t) (rows0 := r.rows) (cols0 := r.cols) (prime0 := r.prime) (small0 := r.small) (pvs0 := r.pivots) (fr0 := r.fr) (fc0 := r.fc) (sm0 := r.sm) h1 h2 h3 ht h9 hJ.1.2.1 hJ.1.2.2.1 hJ.1.2.2.2 h7 (J_CSs hJ.1 hT') x) ?_
  intro a ha
  refine ok_mono ha ?_
  rintro b ⟨e1, e2, e3⟩
  exact ⟨e1, J_ask hJ ht hT' e2 e3⟩
theorem J_count (hJ : J s r) (ht : t < 4) (x : Int32) : ok (f_B_countV 4 s.occ 4096 s.sets 14 s.starts 13 s.nexts 4096 s.lo 4096 s.mi 4096 s.hi (s.fld t) (s.rcn t) (s.ccn t) (s.std t) 144 (s.num t) (s.scc t) (s.sfr t) 4096 (s.rk t) 4096 (s.sg t) 6868 (s.mem t) 5 (s.sst t) 169 (s.df t) (nI t) x) (fun a => ok (f_R_count r.rows r.cols r.prime r.small r.pivots r.fr r.fc r.sm r.flds r.rcs r.els r.nb r.kn r.rks r.rk r.sg r.ord r.szs r.pn r.pm r.pd (nI t) x) (fun b => a.1 = b.1 ∧ J (kset s t a.2) (rset r b.2))) := by
  obtain ⟨m, N, rows, hT⟩ := hJ.2 t ht
  have hT' := hT
  obtain ⟨h1, h2, h3, h4, h5, h6, h7, h8, h9⟩ := hT
  rw [h4, h5, h6]
  refine ok_mono (q_count (c := cof s t) (rows0 := r.rows) (cols0 := r.cols) (prime0 := r.prime) (small0 := r.small) (pvs0 := r.pivots) (fr0 := r.fr) (fc0 := r.fc) (sm0 := r.sm) h1 h2 h3 ht h9 hJ.1.2.1 hJ.1.2.2.1 hJ.1.2.2.2 h7 (J_CSs hJ.1 hT') x) ?_
  intro a ha
  refine ok_mono ha ?_
  rintro b ⟨e1, e2, e3⟩
  exact ⟨e1, J_ask hJ ht hT' e2 e3⟩
theorem J_member (hJ : J s r) (ht : t < 4) (x i : Int32) : ok (f_B_memberV 4 s.occ 4096 s.sets 14 s.starts 13 s.nexts 4096 s.lo 4096 s.mi 4096 s.hi (s.fld t) (s.rcn t) (s.ccn t) (s.std t) 144 (s.num t) (s.scc t) (s.sfr t) 4096 (s.rk t) 4096 (s.sg t) 6868 (s.mem t) 5 (s.sst t) 169 (s.df t) (nI t) x i) (fun a => ok (f_R_member r.rows r.cols r.prime r.small r.pivots r.fr r.fc r.sm r.flds r.rcs r.els r.nb r.kn r.rks r.rk r.sg r.ord r.szs r.pn r.pm r.pd (nI t) x i) (fun b => a.1 = b.1 ∧ J (kset s t a.2) (rset r b.2))) := by
  obtain ⟨m, N, rows, hT⟩ := hJ.2 t ht
  have hT' := hT
  obtain ⟨h1, h2, h3, h4, h5, h6, h7, h8, h9⟩ := hT
  rw [h4, h5, h6]
  refine ok_mono (q_member (c := cof s t) (rows0 := r.rows) (cols0 := r.cols) (prime0 := r.prime) (small0 := r.small) (pvs0 := r.pivots) (fr0 := r.fr) (fc0 := r.fc) (sm0 := r.sm) h1 h2 h3 ht h9 hJ.1.2.1 hJ.1.2.2.1 hJ.1.2.2.2 h7 (J_CSs hJ.1 hT') x i) ?_
  intro a ha
  refine ok_mono ha ?_
  rintro b ⟨e1, e2, e3⟩
  exact ⟨e1, J_ask hJ ht hT' e2 e3⟩
theorem J_sign (hJ : J s r) (ht : t < 4) (x : Int32) : ok (f_B_signV 4 s.occ 4096 s.sets 14 s.starts 13 s.nexts 4096 s.lo 4096 s.mi 4096 s.hi (s.fld t) (s.rcn t) (s.ccn t) (s.std t) 144 (s.num t) (s.scc t) (s.sfr t) 4096 (s.rk t) 4096 (s.sg t) 6868 (s.mem t) 5 (s.sst t) 169 (s.df t) (nI t) x) (fun a => ok (f_R_sign r.rows r.cols r.prime r.small r.pivots r.fr r.fc r.sm r.flds r.rcs r.els r.nb r.kn r.rks r.rk r.sg r.ord r.szs r.pn r.pm r.pd (nI t) x) (fun b => a.1 = b.1 ∧ J (kset s t a.2) (rset r b.2))) := by
  obtain ⟨m, N, rows, hT⟩ := hJ.2 t ht
  have hT' := hT
  obtain ⟨h1, h2, h3, h4, h5, h6, h7, h8, h9⟩ := hT
  rw [h4, h5, h6]
  refine ok_mono (q_sign (c := cof s t) (rows0 := r.rows) (cols0 := r.cols) (prime0 := r.prime) (small0 := r.small) (pvs0 := r.pivots) (fr0 := r.fr) (fc0 := r.fc) (sm0 := r.sm) h1 h2 h3 ht h9 hJ.1.2.1 hJ.1.2.2.1 hJ.1.2.2.2 h7 (J_CSs hJ.1 hT') x) ?_
  intro a ha
  refine ok_mono ha ?_
  rintro b ⟨e1, e2, e3⟩
  exact ⟨e1, J_ask hJ ht hT' e2 e3⟩
theorem J_tutte (hJ : J s r) (ht : t < 4) (x y : Int32) : ok (f_B_tutteV 4 s.occ 4096 s.sets 14 s.starts 13 s.nexts 4096 s.lo 4096 s.mi 4096 s.hi (s.fld t) (s.rcn t) (s.ccn t) (s.std t) 144 (s.num t) (s.scc t) (s.sfr t) 4096 (s.rk t) 4096 (s.sg t) 6868 (s.mem t) 5 (s.sst t) 169 (s.df t) (nI t) x y) (fun a => ok (f_R_tutte r.rows r.cols r.prime r.small r.pivots r.fr r.fc r.sm r.flds r.rcs r.els r.nb r.kn r.rks r.rk r.sg r.ord r.szs r.cf r.cc r.pn r.pm r.pd (nI t) x y) (fun b => a.1 = b.1 ∧ ∃ (c : R15) (cf cc : Nat → Int64), b.2 = (c.1, c.2.1, c.2.2.1, c.2.2.2.1, c.2.2.2.2.1, c.2.2.2.2.2.1, c.2.2.2.2.2.2.1, c.2.2.2.2.2.2.2.1, r_kn c, r_rks c, r_rk c, r_sg c, c.2.2.2.2.2.2.2.2.2.2.2.2.1, c.2.2.2.2.2.2.2.2.2.2.2.2.2.1, c.2.2.2.2.2.2.2.2.2.2.2.2.2.2, cf, cc) ∧ J (kset s t a.2) (rcc (rset r c) cf cc))) := by
  obtain ⟨m, N, rows, hT⟩ := hJ.2 t ht
  have hT' := hT
  obtain ⟨h1, h2, h3, h4, h5, h6, h7, h8, h9⟩ := hT
  rw [h4, h5, h6]
  refine ok_mono (q_tutte (c := cof s t) (rows0 := r.rows) (cols0 := r.cols) (prime0 := r.prime) (small0 := r.small) (pvs0 := r.pivots) (fr0 := r.fr) (fc0 := r.fc) (sm0 := r.sm) (cf0 := r.cf) (cc0 := r.cc) h1 h2 h3 ht h9 hJ.1.2.1 hJ.1.2.2.1 hJ.1.2.2.2 h7 (J_CSs hJ.1 hT') x y) ?_
  intro a ha
  refine ok_mono ha ?_
  rintro ⟨b0, b1, b2, b3, b4, b5, b6, b7, b8, b9, b10, b11, b12, b13, b14, b15, bb⟩ ⟨e1, e2, e3⟩
  exact ⟨e1, (b1, b2, b3, b4, b5, b6, b7, b8, b9, b10, b11, b12, b13, b14, b15), bb.1, bb.2, rfl, J_cc (J_ask hJ ht hT' e2 e3)⟩
theorem J_below (hJ : J s r) (ht : t < 4) (x : Int32) : ok (f_B_belowV 4 s.occ 4096 s.sets 14 s.starts 13 s.nexts 4096 s.lo 4096 s.mi 4096 s.hi (s.fld t) (s.rcn t) (s.ccn t) (s.std t) 144 (s.num t) (s.scc t) (s.sfr t) 4096 (s.rk t) 4096 (s.sg t) 6868 (s.mem t) 5 (s.sst t) 169 (s.df t) (nI t) x) (fun a => ok (f_R_below r.rows r.cols r.prime r.small r.pivots r.fr r.fc r.sm r.flds r.rcs r.els r.nb r.kn r.rks r.rk r.sg r.ord r.szs r.so r.pn r.pm r.pd (nI t) x) (fun b => a.1 = b.1 ∧ ∃ (c : R15) (so : Nat → Int32), b.2 = (c.1, c.2.1, c.2.2.1, c.2.2.2.1, c.2.2.2.2.1, c.2.2.2.2.2.1, c.2.2.2.2.2.2.1, c.2.2.2.2.2.2.2.1, r_kn c, r_rks c, r_rk c, r_sg c, c.2.2.2.2.2.2.2.2.2.2.2.2.1, c.2.2.2.2.2.2.2.2.2.2.2.2.2.1, c.2.2.2.2.2.2.2.2.2.2.2.2.2.2, so) ∧ J (kset s t a.2) (rso (rset r c) so))) := by
  obtain ⟨m, N, rows, hT⟩ := hJ.2 t ht
  have hT' := hT
  obtain ⟨h1, h2, h3, h4, h5, h6, h7, h8, h9⟩ := hT
  rw [h4, h5, h6]
  refine ok_mono (q_below (c := cof s t) (rows0 := r.rows) (cols0 := r.cols) (prime0 := r.prime) (small0 := r.small) (pvs0 := r.pivots) (fr0 := r.fr) (fc0 := r.fc) (sm0 := r.sm) (so0 := r.so) h1 h2 h3 ht h9 hJ.1.2.1 hJ.1.2.2.1 hJ.1.2.2.2 h7 (J_CSs hJ.1 hT') x) ?_
  intro a ha
  refine ok_mono ha ?_
  rintro ⟨b0, b1, b2, b3, b4, b5, b6, b7, b8, b9, b10, b11, b12, b13, b14, b15, bb⟩ ⟨e1, e2, e3⟩
  exact ⟨e1, (b1, b2, b3, b4, b5, b6, b7, b8, b9, b10, b11, b12, b13, b14, b15), bb, rfl, J_so (J_ask hJ ht hT' e2 e3)⟩
end Steps
