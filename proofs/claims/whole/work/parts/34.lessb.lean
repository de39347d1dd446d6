theorem tr_fin {m : Nat} {w : Nat → Int32} {mi : Int32} {v : Int} (hm : m ≤ 160) (hw : dg w m) (hmi : mi = 0 ∨ mi = 1) (hv : v = if mi = 0 then nv w m else - nv w m) : ok (ck_b2 (f_N_trim (nI m) mi 160 w) fun u_8 u_9 => some (u_8, u_9, w)) (fun r => ∃ k', k' ≤ m ∧ Nu r.1 r.2.1 r.2.2 k' v) := by
  refine ok_b2 (tr_ok hm hmi) ?_
  rintro u1 u2 ⟨k', h1, h2, h3, h4, h5⟩
  dsimp only at h2 h5
  refine ok_some ⟨k', h1, h2, dg_le hw h1, h3, ?_, fun e => by rw [h5, if_pos e], ?_⟩
  · rw [h5]; split
    · exact Or.inl rfl
    · exact hmi
  · dsimp only
    rw [hv, h5, ← h4]
    by_cases e : k' = 0
    · subst e; simp [nv]
    · rw [if_neg e]
theorem ok_or {R : Type} {a b : Option R} {Q : R → Prop} (ha : a = none) (hb : ok b Q) : ok (ck_or a b) Q := by subst ha; exact hb
theorem ok_orl {R : Type} {a b : Option R} {Q : R → Prop} (ha : ok a Q) : ok (ck_or a b) Q := by
  obtain ⟨r, e, q⟩ := ha; subst e; exact ⟨r, rfl, q⟩
/-- is the other above 0 -/
def oth (l : Nat) (mb : Int32) : Int32 := if l = 0 then 0 else if mb = 0 then 1 else 0
theorem ot_hd {R : Type} {Q : R → Prop} {k_19 : Int32 → Option R} {l : Nat} {mb : Int32} (hl : l ≤ 160) (h : ok (k_19 (oth l mb)) Q) : ok (ck_jn (fun (_ : Unit) => k_19 0) <| fun k_18 => ck_if (nI l ≤ 0) (k_18 ()) (ck_if (mb = 0) (k_19 1) (k_18 ()))) Q := by
  refine ok_jn (fun kk => (oth l mb = 0 → ok (kk ()) Q)) (fun e => by rw [e] at h; exact h) ?_
  intro kk hk
  refine ok_if (fun c => ?_) (fun c => ?_)
  · exact hk (if_pos ((nI_le0 (by omega)).mp c))
  · have e : l ≠ 0 := fun e => c ((nI_le0 (by omega)).mpr e)
    refine ok_if (fun c2 => ?_) (fun c2 => ?_)
    · have : oth l mb = 1 := by unfold oth; rw [if_neg e, if_pos c2]
      rw [this] at h; exact h
    · exact hk (by unfold oth; rw [if_neg e, if_neg c2])
theorem ot_val (l : Nat) (mb : Int32) : oth l mb = 0 ∨ oth l mb = 1 := by
  unfold oth; split
  · exact Or.inl rfl
  · split
    · exact Or.inr rfl
    · exact Or.inl rfl
theorem la_ok {k l : Nat} {ma mb : Int32} {da db x : Nat → Int32} {va vb : Int} (ha : Nu (nI k) ma da k va) (hb : Nu (nI l) mb db l vb) (hk : k ≤ 158) (hl : l ≤ 158) (hc : k = 0 ∨ l = 0 ∨ ma = oth l mb) : ok (f_N_lessA 160 x (nI k) ma 160 da (nI l) mb 160 db) (fun r => ∃ k', k' ≤ max k l + 1 ∧ Nu r.1 r.2.1 r.2.2 k' (va - vb)) := by
  obtain ⟨-, hda, hta, hma, hka, hva⟩ := ha
  obtain ⟨-, hdb, htb, hmb, hlb, hvb⟩ := hb
  unfold f_N_lessA
  refine ok_jn (fun k19 => ok (k19 (oth l mb)) (fun r => ∃ k', k' ≤ max k l + 1 ∧ Nu r.1 r.2.1 r.2.2 k' (va - vb))) ?_ (fun k19 h => ot_hd (by omega) h)
  refine ok_jn (fun k42 => ok (k42 ()) (fun r => ∃ k', k' ≤ max k l + 1 ∧ Nu r.1 r.2.1 r.2.2 k' (va - vb))) ?_ ?_
  · refine ok_jn (fun k64 => ok (k64 (nI (max k l))) (fun r => ∃ k', k' ≤ max k l + 1 ∧ Nu r.1 r.2.1 r.2.2 k' (va - vb))) ?_ ?_
    · generalize hm : max k l = m
      have hkm : k ≤ m := by omega
      have hlm : l ≤ m := by omega
      refine ok_jn (fun k150 => ∀ (c : Int32) (w : Nat → Int32), (c.toInt = 0 ∨ c.toInt = 1) → dg w m → nv w m + c.toInt * 65536 ^ m = nv da k + nv db l → ok (k150 c w) (fun r => ∃ k', k' ≤ m + 1 ∧ Nu r.1 r.2.1 r.2.2 k' (va - vb))) ?_ ?_
      · intro c w hcc hw he
        refine ok_in (vp_in_nI (by omega) (by decide)) ?_
        have hnv : nv (upd w m c) (m + 1) = nv da k + nv db l := by rw [nv_upd, he]
        have hdw : dg (upd w m c) (m + 1) := dg_upd hw (by omega) (by omega)
        refine ok_jn (fun k183 => ok (k183 (if k = 0 then oth l mb else ma)) (fun r => ∃ k', k' ≤ m + 1 ∧ Nu r.1 r.2.1 r.2.2 k' (va - vb))) ?_ ?_
        · have hs : (if k = 0 then oth l mb else ma) = 0 ∨ (if k = 0 then oth l mb else ma) = 1 := by
            split
            · exact ot_val l mb
            · exact hma
          refine ok_z hs ?_
          rw [nI_1, nI_clamp (by omega)]
          refine tr_fin (by omega) hdw hs ?_
          rw [hnv, hva, hvb]
          by_cases e : k = 0
          · subst e
            rw [if_pos rfl, hka rfl, if_pos rfl]
            unfold oth
            by_cases e2 : l = 0
            · subst e2; simp [nv, hlb rfl]
            · rw [if_neg e2]
              rcases hmb with h | h <;> simp [h, nv]
          · rw [if_neg e]
            by_cases e2 : l = 0
            · subst e2
              rw [hlb rfl]
              simp [nv]
            · have h3 : ma = oth l mb := by
                rcases hc with h | h | h
                · exact absurd h e
                · exact absurd h e2
                · exact h
              unfold oth at h3
              rw [if_neg e2] at h3
              rcases hmb with h | h
              · rw [if_pos h] at h3
                rw [h3, h]; simp; omega
              · have h4 : mb ≠ 0 := by rw [h]; decide
                rw [if_neg h4] at h3
                rw [h3, h]; simp
        · intro k183 h
          refine ok_if (fun q => ?_) (fun q => ?_)
          · rw [if_pos ((nI_eq0 (by omega)).mp q)] at h; exact h
          · rw [if_neg (fun e => q ((nI_eq0 (by omega)).mpr e))] at h; exact h
      · intro k150 h
        exact ad_loop hkm hlm (by omega) hda hdb h
    · intro k64 h
      refine ok_if (fun q => ?_) (fun q => ?_)
      · have := (nI_leI (by omega) (by omega)).mp q
        rw [show max k l = l by omega] at h ⊢; exact h
      · have : ¬ k ≤ l := fun e => q ((nI_leI (by omega) (by omega)).mpr e)
        rw [show max k l = k by omega] at h ⊢; exact h
  · intro k42 h
    refine ok_if (fun _ => h) (fun q => ok_if (fun _ => h) (fun q2 => ok_if (fun _ => h) (fun q3 => ?_)))
    exfalso
    rcases hc with e | e | e
    · exact q ((nI_eq0 (by omega)).mpr e)
    · exact q2 ((nI_eq0 (by omega)).mpr e)
    · exact q3 e
theorem la_none {k l : Nat} {ma mb : Int32} {da db x : Nat → Int32} (hk : k ≤ 158) (hl : l ≤ 158) (k0 : k ≠ 0) (l0 : l ≠ 0) (h : ma ≠ oth l mb) : f_N_lessA 160 x (nI k) ma 160 da (nI l) mb 160 db = none := by
  have e1 : ¬ nI k = 0 := fun e => k0 ((nI_eq0 (by omega)).mp e)
  have e2 : ¬ nI l = 0 := fun e => l0 ((nI_eq0 (by omega)).mp e)
  have e3 : ¬ nI l ≤ 0 := fun e => l0 ((nI_le0 (by omega)).mp e)
  cases hE : f_N_lessA 160 x (nI k) ma 160 da (nI l) mb 160 db with
  | none => rfl
  | some r =>
    exfalso
    unfold f_N_lessA at hE
    refine ck_jn_W hE (fun k19 => ∀ s, s = oth l mb → k19 s = some r → False) ?_ ?_
    · intro s hs h1
      refine ck_jn_W h1 (fun _ => True) trivial ?_
      intro k42 _ h2
      have h3 := ck_if_f h2 e1
      have h4 := ck_if_f h3 e2
      have h5 := ck_if_f h4 (by rw [hs]; exact h)
      cases h5
    · intro k19 hk h1
      refine ck_jn_W h1 (fun k18 => k18 () = some r → oth l mb = 0 → False) (fun h2 h3 => hk 0 h3.symm h2) ?_
      intro k18 hk18 h2
      have h3 := ck_if_f h2 e3
      by_cases hb : mb = 0
      · exact hk 1 (by unfold oth; rw [if_neg l0, if_pos hb]) (ck_if_t h3 hb)
      · exact hk18 (ck_if_f h3 hb) (by unfold oth; rw [if_neg l0, if_neg hb])
theorem lb_ok {k l : Nat} {ma mb : Int32} {da db x : Nat → Int32} {va vb : Int} (ha : Nu (nI k) ma da k va) (hb : Nu (nI l) mb db l vb) (hk : k ≤ 158) (hl : l ≤ 158) (k0 : k ≠ 0) (l0 : l ≠ 0) (h : ma ≠ oth l mb) : ok (ck_or (f_N_lessB 160 x (nI k) ma 160 da (nI l) mb 160 db) (f_N_lessC 160 x (nI k) ma 160 da (nI l) mb 160 db)) (fun r => ∃ k', k' ≤ max k l + 1 ∧ Nu r.1 r.2.1 r.2.2 k' (va - vb)) := by
  have e1 : ¬ nI k = 0 := fun e => k0 ((nI_eq0 (by omega)).mp e)
  have e2 : ¬ nI l = 0 := fun e => l0 ((nI_eq0 (by omega)).mp e)
  obtain ⟨-, hda, hta, hma, hka, hva⟩ := ha
  obtain ⟨-, hdb, htb, hmb, hlb, hvb⟩ := hb
  have hsame : ma = mb := by
    unfold oth at h
    rw [if_neg l0] at h
    rcases hmb with q | q
    · rw [if_pos q] at h
      rcases hma with q2 | q2
      · rw [q, q2]
      · exact absurd q2 h
    · have h4 : mb ≠ 0 := by rw [q]; decide
      rw [if_neg h4] at h
      rcases hma with q2 | q2
      · exact absurd q2 h
      · rw [q, q2]
  obtain ⟨cr, hcr, hcmp⟩ := cs_ok (by omega : k ≤ 160) (by omega : l ≤ 160) hda hdb hta htb
  have hlen : nv db l ≤ nv da k → l ≤ k := by
    intro q
    rcases Nat.lt_or_ge k l with q2 | q2
    · have := nv_mono_len hda hdb htb q2; omega
    · exact q2
  have hlen2 : nv da k ≤ nv db l → k ≤ l := by
    intro q
    rcases Nat.lt_or_ge l k with q2 | q2
    · have := nv_mono_len hdb hda hta q2; omega
    · exact q2
  by_cases hge : cr < 0
  · have hlt : nv da k < nv db l := by
      rcases hcmp with ⟨q, -⟩ | ⟨q, -⟩ | ⟨-, q⟩
      · rw [q] at hge; exact absurd hge (by decide)
      · rw [q] at hge; exact absurd hge (by decide)
      · exact q
    refine ok_or ?_ ?_
    · cases hE : f_N_lessB 160 x (nI k) ma 160 da (nI l) mb 160 db with
      | none => rfl
      | some r =>
        exfalso
        unfold f_N_lessB at hE
        have key : ∀ s : Int32, (ck_if (nI k = 0) (none : Option (Int32 × Int32 × (Nat → Int32))) (ck_if (nI l = 0) none (ck_if (ma = s) none (ck_b1 (f_N_compareSize (nI k) 160 da (nI l) 160 db) fun r_5 => ck_if (r_5 < 0) none none)))) = none := by
          intro s
          unfold ck_if ck_b1
          rw [hcr]
          simp
        refine ck_jn_W hE (fun k19 => ∀ s, k19 s = some r → False) ?_ ?_
        · intro s h1
          have h3 := ck_if_f (ck_if_f h1 e1) e2
          by_cases q : ma = s
          · have := ck_if_t h3 q; cases this
          · obtain ⟨u, hu, h4⟩ := ck_b1_s (ck_if_f h3 q)
            rw [hcr] at hu
            have hu := Option.some.inj hu
            subst hu
            have := ck_if_t h4 hge
            cases this
        · intro k19 hk19 h1
          refine ck_jn_W h1 (fun k18 => k18 () = some r → False) (fun h2 => hk19 0 h2) ?_
          intro k18 hk18 h2
          by_cases q : nI l ≤ 0
          · exact hk18 (ck_if_t h2 q)
          · by_cases q2 : mb = 0
            · exact hk19 1 (ck_if_t (ck_if_f h2 q) q2)
            · exact hk18 (ck_if_f (ck_if_f h2 q) q2)
    · unfold f_N_lessC
      refine ok_jn (fun k19 => ok (k19 (oth l mb)) (fun r => ∃ k', k' ≤ max k l + 1 ∧ Nu r.1 r.2.1 r.2.2 k' (va - vb))) ?_ (fun k19 h => ot_hd (by omega) h)
      refine ok_if (fun q => absurd q e1) (fun _ => ok_if (fun q => absurd q e2) (fun _ => ok_if (fun q => absurd q h) (fun _ => ?_)))
      refine ok_b1 (Q1 := fun r => r = cr) ⟨cr, hcr, rfl⟩ ?_
      rintro a1 rfl
      refine ok_if (fun _ => ?_) (fun q => absurd hge q)
      refine ok_if (fun _ => ok_if (fun _ => ?_) (fun q => absurd rfl q)) (fun q => absurd rfl q)
      refine ok_jn (fun k315 => ∀ (c : Int) (w : Nat → Int32), (c = 0 ∨ c = 1) → dg w l → nv w l - c * 65536 ^ l = nv db l - nv da k → ok (k315 w) (fun r => ∃ k', k' ≤ max k l + 1 ∧ Nu r.1 r.2.1 r.2.2 k' (va - vb))) ?_ ?_
      · intro c w hc hw he
        have hc0 : c = 0 := by
          rcases hc with q | q
          · exact q
          · have := nv_lt hw
            rw [q] at he
            omega
        refine ok_if (fun _ => ?_) (fun q => absurd rfl q)
        refine ok_z (ot_val l mb) ?_
        refine ok_mono (tr_fin (v := va - vb) (by omega) hw (ot_val l mb) ?_) (fun r hr => ?_)
        · rw [hc0] at he
          have he2 : nv w l = nv db l - nv da k := by omega
          rw [hva, hvb, he2, hsame]
          unfold oth
          rw [if_neg l0]
          rcases hmb with q | q
          · rw [q]; simp; omega
          · rw [q]; simp; omega
        · obtain ⟨k', h1, h2⟩ := hr
          exact ⟨k', by omega, h2⟩
      · intro k315 hh
        exact su_loop (hlen2 (by omega)) (by omega) hdb hda hh
  · have hge2 : nv db l ≤ nv da k := by
      rcases hcmp with ⟨-, q⟩ | ⟨-, q⟩ | ⟨q, -⟩
      · omega
      · omega
      · rw [q] at hge; exact absurd (by decide) hge
    refine ok_orl ?_
    unfold f_N_lessB
    refine ok_jn (fun k19 => ok (k19 (oth l mb)) (fun r => ∃ k', k' ≤ max k l + 1 ∧ Nu r.1 r.2.1 r.2.2 k' (va - vb))) ?_ (fun k19 h => ot_hd (by omega) h)
    refine ok_if (fun q => absurd q e1) (fun _ => ok_if (fun q => absurd q e2) (fun _ => ok_if (fun q => absurd q h) (fun _ => ?_)))
    refine ok_b1 (Q1 := fun r => r = cr) ⟨cr, hcr, rfl⟩ ?_
    rintro a1 rfl
    refine ok_if (fun q => absurd q hge) (fun _ => ?_)
    refine ok_if (fun q => absurd q (by decide)) (fun _ => ok_if (fun q => absurd q (by decide)) (fun _ => ?_))
    refine ok_jn (fun k315 => ∀ (c : Int) (w : Nat → Int32), (c = 0 ∨ c = 1) → dg w k → nv w k - c * 65536 ^ k = nv da k - nv db l → ok (k315 w) (fun r => ∃ k', k' ≤ max k l + 1 ∧ Nu r.1 r.2.1 r.2.2 k' (va - vb))) ?_ ?_
    · intro c w hc hw he
      have hc0 : c = 0 := by
        rcases hc with q | q
        · exact q
        · have := nv_lt hw
          rw [q] at he
          omega
      refine ok_if (fun q => absurd q (by decide)) (fun _ => ?_)
      refine ok_z hma ?_
      refine ok_mono (tr_fin (v := va - vb) (by omega) hw hma ?_) (fun r hr => ?_)
      · rw [hc0] at he
        have he2 : nv w k = nv da k - nv db l := by omega
        rw [hva, hvb, he2, hsame]
        rcases hmb with q | q
        · rw [q]; simp
        · rw [q]; simp; omega
      · obtain ⟨k', h1, h2⟩ := hr
        exact ⟨k', by omega, h2⟩
    · intro k315 hh
      exact su_loop (hlen hge2) (by omega) hda hdb hh
/-- less: the difference -/
theorem ls_ok {k l : Nat} {na nb ma mb : Int32} {da db x : Nat → Int32} {va vb : Int} (ha : Nu na ma da k va) (hb : Nu nb mb db l vb) (hk : k ≤ 158) (hl : l ≤ 158) : ok (f_N_less 160 x na ma 160 da nb mb 160 db) (fun r => ∃ k', k' ≤ max k l + 1 ∧ Nu r.1 r.2.1 r.2.2 k' (va - vb)) := by
  have e1 := ha.1
  have e2 := hb.1
  subst e1; subst e2
  unfold f_N_less
  by_cases hc : k = 0 ∨ l = 0 ∨ ma = oth l mb
  · exact ok_orl (la_ok ha hb hk hl hc)
  · have k0 : k ≠ 0 := fun e => hc (Or.inl e)
    have l0 : l ≠ 0 := fun e => hc (Or.inr (Or.inl e))
    have m0 : ma ≠ oth l mb := fun e => hc (Or.inr (Or.inr e))
    exact ok_or (la_none hk hl k0 l0 m0) (lb_ok ha hb hk hl k0 l0 m0)
