section LawCases
variable {p : Program} {l : Launch} {e : Env} {s : State} {m : MethodId} {below : List Frame} {meth : Method} {c : Code} {b L i : Nat} {xs : Nat → Int32} {dC : Nat → ClassId} {dI : Nat → Nat → Nat} {cI cJ cB cZ cT cN : ClassId} {g ha NA ND : Nat → Nat} {K : KS} {R : RS} {H : Heap} {locs : List Loc} {ls : Array Slot} {lv : List (Nat × Value)} {Q : State → Prop}
theorem lg_cmp_self (x : Int64) : lg_cmp x x = 0 := by simp [lg_cmp]
/-- one number of the script -/
theorem lw_ld (hx : p.tables.exec = Jvm.exec) (hb : c.code = code) (hX : va_X b L xs s s.heap) (hbl : b < s.heap.size) (hS : va_S (fun q : Nat => s.heap.size ≤ q) s.heap H locs) (hl : lv_has ls 4 [(0, .ref b), (1, .ref (g 0)), (2, .ref (ha 0)), (3, .int (nI i))]) {n : Int} {j : Nat} {v : Int32} (hn : Int32.ofInt n = nI j) (hi : i + j < L) (hL : L ≤ 2560) (hv : xs (i + j) = v) {pc : Nat} {rest : List Value}
    (d0 : decode code pc = .ok (.aload_n 0, 1)) (d1 : decode code (pc + 1) = .ok (.iload_n 3, 1)) (d2 : decode code (pc + 1 + 1) = .ok (.iconst n, 1)) (d3 : decode code (pc + 1 + 1 + 1) = .ok (.iadd, 1)) (d4 : decode code (pc + 1 + 1 + 1 + 1) = .ok (.iaload, 1))
    (kk : W p l e room_1 s m #[Value.ref b] below meth c H locs 600000 7302250 Q (F0 m (pc + 1 + 1 + 1 + 1 + 1) ls (.int v :: rest))) : W p l e room_1 s m #[Value.ref b] below meth c H locs 600000 7302250 Q (F0 m pc ls rest) := by
  refine lv_aload_n hx hb d0 rfl (lv_at hl 0 rfl) ?_
  refine lv_iload_n hx hb d1 rfl (lv_at hl 3 rfl) ?_
  refine lv_iconst (v := nI j) hx hb d2 hn ?_
  refine lv_iadd hx hb d3 ?_
  rw [nI_add]
  refine va_sld hx hb hX hbl (Nat.not_le.mpr hbl) hS (vp_in_nI hi (by omega)) d4 ?_
  rw [nI_clamp (by omega), hv]
  exact kk
theorem law_begin (C : LX p s m c b dC dI cI cJ cB cZ cT cN) (hL : L ≤ 2560) (hi : i + 5 ≤ L) (hX : va_X b L xs s s.heap) (hbl : b < s.heap.size) (hl : lv_has ls 4 [(0, .ref b), (1, .ref (g 0)), (2, .ref (ha 0)), (3, .int (nI i))]) (hJ : J K R) (hw : LW s dC dI cI cJ cB cZ cT cN g ha NA ND K R H locs)
    (kk : ∀ (K : KS) (R : RS) (H : Heap) (locs : List Loc), J K R → LW s dC dI cI cJ cB cZ cT cN g ha NA ND K R H locs → W p l e room_1 s m #[Value.ref b] below meth c H locs 600000 7302250 Q (F0 m 432 ls [])) : W p l e room_1 s m #[Value.ref b] below meth c H locs 600000 7302250 Q (F0 m 84 ls []) := by
  have hx := C.1
  have hb := C.2.1
  obtain ⟨x0, e1⟩ : ∃ y, xs (i + 1) = y := ⟨_, rfl⟩
  obtain ⟨f, e2⟩ : ∃ y, xs (i + 2) = y := ⟨_, rfl⟩
  obtain ⟨w, e3⟩ : ∃ y, xs (i + 3) = y := ⟨_, rfl⟩
  obtain ⟨k, e4⟩ : ∃ y, xs (i + 4) = y := ⟨_, rfl⟩
  refine lv_aload_n hx hb d_law_84 rfl (lv_at hl 1 rfl) ?_
  refine lw_ld (n := 1) (j := 1) hx hb hX hbl hw.2.2 hl rfl (by omega) hL e1 d_law_85 d_law_86 d_law_87 d_law_88 d_law_89 ?_
  refine lw_ld (n := 2) (j := 2) hx hb hX hbl hw.2.2 hl rfl (by omega) hL e2 d_law_90 d_law_91 d_law_92 d_law_93 d_law_94 ?_
  refine lw_ld (n := 3) (j := 3) hx hb hX hbl hw.2.2 hl rfl (by omega) hL e3 d_law_95 d_law_96 d_law_97 d_law_98 d_law_99 ?_
  refine lw_ld (n := 4) (j := 4) hx hb hX hbl hw.2.2 hl rfl (by omega) hL e4 d_law_100 d_law_101 d_law_102 d_law_103 d_law_104 ?_
  rcases tix x0 with ⟨t, ht, rfl⟩ | hn
  · obtain ⟨a, h1, bb, h2, ee, hJ2⟩ := J_begin hJ ht f w k
    refine x_beginV C ht h1 hw hl (fun H locs hw => ?_)
    refine lv_aload_n hx hb d_law_108 rfl (lv_at hl 2 rfl) ?_
    refine lw_ld (n := 1) (j := 1) hx hb hX hbl hw.2.2 hl rfl (by omega) hL e1 d_law_109 d_law_110 d_law_111 d_law_112 d_law_113 ?_
    refine lw_ld (n := 2) (j := 2) hx hb hX hbl hw.2.2 hl rfl (by omega) hL e2 d_law_114 d_law_115 d_law_116 d_law_117 d_law_118 ?_
    refine lw_ld (n := 3) (j := 3) hx hb hX hbl hw.2.2 hl rfl (by omega) hL e3 d_law_119 d_law_120 d_law_121 d_law_122 d_law_123 ?_
    refine lw_ld (n := 4) (j := 4) hx hb hX hbl hw.2.2 hl rfl (by omega) hL e4 d_law_124 d_law_125 d_law_126 d_law_127 d_law_128 ?_
    refine y_begin C h2 hw hl (fun H locs hw => ?_)
    refine lv_icmp_eq (tgt := 432) hx hb d_law_132 (by decide) (fun _ => ?_) (fun q => absurd (ee) q)
    exact kk _ _ H locs (hJ2) hw
  · refine x_beginN C (no_Bbegin hn) hw hl (fun H locs hw => ?_)
    refine lv_aload_n hx hb d_law_108 rfl (lv_at hl 2 rfl) ?_
    refine lw_ld (n := 1) (j := 1) hx hb hX hbl hw.2.2 hl rfl (by omega) hL e1 d_law_109 d_law_110 d_law_111 d_law_112 d_law_113 ?_
    refine lw_ld (n := 2) (j := 2) hx hb hX hbl hw.2.2 hl rfl (by omega) hL e2 d_law_114 d_law_115 d_law_116 d_law_117 d_law_118 ?_
    refine lw_ld (n := 3) (j := 3) hx hb hX hbl hw.2.2 hl rfl (by omega) hL e3 d_law_119 d_law_120 d_law_121 d_law_122 d_law_123 ?_
    refine lw_ld (n := 4) (j := 4) hx hb hX hbl hw.2.2 hl rfl (by omega) hL e4 d_law_124 d_law_125 d_law_126 d_law_127 d_law_128 ?_
    refine y_begin C (no_Rbegin hn f w k) hw hl (fun H locs hw => ?_)
    refine lv_icmp_eq (tgt := 432) hx hb d_law_132 (by decide) (fun _ => ?_) (fun q => absurd (rfl) q)
    exact kk _ _ H locs (hJ) hw
theorem law_put (C : LX p s m c b dC dI cI cJ cB cZ cT cN) (hL : L ≤ 2560) (hi : i + 5 ≤ L) (hX : va_X b L xs s s.heap) (hbl : b < s.heap.size) (hl : lv_has ls 4 [(0, .ref b), (1, .ref (g 0)), (2, .ref (ha 0)), (3, .int (nI i))]) (hJ : J K R) (hw : LW s dC dI cI cJ cB cZ cT cN g ha NA ND K R H locs)
    (kk : ∀ (K : KS) (R : RS) (H : Heap) (locs : List Loc), J K R → LW s dC dI cI cJ cB cZ cT cN g ha NA ND K R H locs → W p l e room_1 s m #[Value.ref b] below meth c H locs 600000 7302250 Q (F0 m 432 ls [])) : W p l e room_1 s m #[Value.ref b] below meth c H locs 600000 7302250 Q (F0 m 137 ls []) := by
  have hx := C.1
  have hb := C.2.1
  obtain ⟨x0, e1⟩ : ∃ y, xs (i + 1) = y := ⟨_, rfl⟩
  obtain ⟨w, e2⟩ : ∃ y, xs (i + 2) = y := ⟨_, rfl⟩
  obtain ⟨k, e3⟩ : ∃ y, xs (i + 3) = y := ⟨_, rfl⟩
  obtain ⟨v, e4⟩ : ∃ y, xs (i + 4) = y := ⟨_, rfl⟩
  refine lv_aload_n hx hb d_law_137 rfl (lv_at hl 1 rfl) ?_
  refine lw_ld (n := 1) (j := 1) hx hb hX hbl hw.2.2 hl rfl (by omega) hL e1 d_law_138 d_law_139 d_law_140 d_law_141 d_law_142 ?_
  refine lw_ld (n := 2) (j := 2) hx hb hX hbl hw.2.2 hl rfl (by omega) hL e2 d_law_143 d_law_144 d_law_145 d_law_146 d_law_147 ?_
  refine lw_ld (n := 3) (j := 3) hx hb hX hbl hw.2.2 hl rfl (by omega) hL e3 d_law_148 d_law_149 d_law_150 d_law_151 d_law_152 ?_
  refine lw_ld (n := 4) (j := 4) hx hb hX hbl hw.2.2 hl rfl (by omega) hL e4 d_law_153 d_law_154 d_law_155 d_law_156 d_law_157 ?_
  rcases tix x0 with ⟨t, ht, rfl⟩ | hn
  · obtain ⟨a, h1, bb, h2, ee, hJ2⟩ := J_put hJ ht w k v
    refine x_putV C ht h1 hw hl (fun H locs hw => ?_)
    refine lv_aload_n hx hb d_law_161 rfl (lv_at hl 2 rfl) ?_
    refine lw_ld (n := 1) (j := 1) hx hb hX hbl hw.2.2 hl rfl (by omega) hL e1 d_law_162 d_law_163 d_law_164 d_law_165 d_law_166 ?_
    refine lw_ld (n := 2) (j := 2) hx hb hX hbl hw.2.2 hl rfl (by omega) hL e2 d_law_167 d_law_168 d_law_169 d_law_170 d_law_171 ?_
    refine lw_ld (n := 3) (j := 3) hx hb hX hbl hw.2.2 hl rfl (by omega) hL e3 d_law_172 d_law_173 d_law_174 d_law_175 d_law_176 ?_
    refine lw_ld (n := 4) (j := 4) hx hb hX hbl hw.2.2 hl rfl (by omega) hL e4 d_law_177 d_law_178 d_law_179 d_law_180 d_law_181 ?_
    refine y_put C h2 hw hl (fun H locs hw => ?_)
    refine lv_icmp_eq (tgt := 432) hx hb d_law_185 (by decide) (fun _ => ?_) (fun q => absurd (ee) q)
    exact kk _ _ H locs (hJ2) hw
  · refine x_putN C (no_Bput hn) hw hl (fun H locs hw => ?_)
    refine lv_aload_n hx hb d_law_161 rfl (lv_at hl 2 rfl) ?_
    refine lw_ld (n := 1) (j := 1) hx hb hX hbl hw.2.2 hl rfl (by omega) hL e1 d_law_162 d_law_163 d_law_164 d_law_165 d_law_166 ?_
    refine lw_ld (n := 2) (j := 2) hx hb hX hbl hw.2.2 hl rfl (by omega) hL e2 d_law_167 d_law_168 d_law_169 d_law_170 d_law_171 ?_
    refine lw_ld (n := 3) (j := 3) hx hb hX hbl hw.2.2 hl rfl (by omega) hL e3 d_law_172 d_law_173 d_law_174 d_law_175 d_law_176 ?_
    refine lw_ld (n := 4) (j := 4) hx hb hX hbl hw.2.2 hl rfl (by omega) hL e4 d_law_177 d_law_178 d_law_179 d_law_180 d_law_181 ?_
    refine y_put C (no_Rput hn w k v) hw hl (fun H locs hw => ?_)
    refine lv_icmp_eq (tgt := 432) hx hb d_law_185 (by decide) (fun _ => ?_) (fun q => absurd (rfl) q)
    exact kk _ _ H locs (hJ) hw
theorem law_columns (C : LX p s m c b dC dI cI cJ cB cZ cT cN) (hL : L ≤ 2560) (hi : i + 5 ≤ L) (hX : va_X b L xs s s.heap) (hbl : b < s.heap.size) (hl : lv_has ls 4 [(0, .ref b), (1, .ref (g 0)), (2, .ref (ha 0)), (3, .int (nI i))]) (hJ : J K R) (hw : LW s dC dI cI cJ cB cZ cT cN g ha NA ND K R H locs)
    (kk : ∀ (K : KS) (R : RS) (H : Heap) (locs : List Loc), J K R → LW s dC dI cI cJ cB cZ cT cN g ha NA ND K R H locs → W p l e room_1 s m #[Value.ref b] below meth c H locs 600000 7302250 Q (F0 m 432 ls [])) : W p l e room_1 s m #[Value.ref b] below meth c H locs 600000 7302250 Q (F0 m 190 ls []) := by
  have hx := C.1
  have hb := C.2.1
  obtain ⟨x0, e1⟩ : ∃ y, xs (i + 1) = y := ⟨_, rfl⟩
  refine lv_aload_n hx hb d_law_190 rfl (lv_at hl 1 rfl) ?_
  refine lw_ld (n := 1) (j := 1) hx hb hX hbl hw.2.2 hl rfl (by omega) hL e1 d_law_191 d_law_192 d_law_193 d_law_194 d_law_195 ?_
  rcases tix x0 with ⟨t, ht, rfl⟩ | hn
  · obtain ⟨a, h1, bb, h2, ee⟩ := J_columns hJ ht
    refine x_columnsV C ht h1 hw hl (fun H locs hw => ?_)
    refine lv_aload_n hx hb d_law_199 rfl (lv_at hl 2 rfl) ?_
    refine lw_ld (n := 1) (j := 1) hx hb hX hbl hw.2.2 hl rfl (by omega) hL e1 d_law_200 d_law_201 d_law_202 d_law_203 d_law_204 ?_
    refine y_columns C h2 hw hl (fun H locs hw => ?_)
    refine lv_icmp_eq (tgt := 432) hx hb d_law_208 (by decide) (fun _ => ?_) (fun q => absurd (ee) q)
    exact kk _ _ H locs (hJ) hw
  · refine x_columnsN C (no_Bcolumns hn) hw hl (fun H locs hw => ?_)
    refine lv_aload_n hx hb d_law_199 rfl (lv_at hl 2 rfl) ?_
    refine lw_ld (n := 1) (j := 1) hx hb hX hbl hw.2.2 hl rfl (by omega) hL e1 d_law_200 d_law_201 d_law_202 d_law_203 d_law_204 ?_
    refine y_columns C (no_Rcolumns hn) hw hl (fun H locs hw => ?_)
    refine lv_icmp_eq (tgt := 432) hx hb d_law_208 (by decide) (fun _ => ?_) (fun q => absurd (rfl) q)
    exact kk _ _ H locs (hJ) hw
theorem law_rank (C : LX p s m c b dC dI cI cJ cB cZ cT cN) (hL : L ≤ 2560) (hi : i + 5 ≤ L) (hX : va_X b L xs s s.heap) (hbl : b < s.heap.size) (hl : lv_has ls 4 [(0, .ref b), (1, .ref (g 0)), (2, .ref (ha 0)), (3, .int (nI i))]) (hJ : J K R) (hw : LW s dC dI cI cJ cB cZ cT cN g ha NA ND K R H locs)
    (kk : ∀ (K : KS) (R : RS) (H : Heap) (locs : List Loc), J K R → LW s dC dI cI cJ cB cZ cT cN g ha NA ND K R H locs → W p l e room_1 s m #[Value.ref b] below meth c H locs 600000 7302250 Q (F0 m 432 ls [])) : W p l e room_1 s m #[Value.ref b] below meth c H locs 600000 7302250 Q (F0 m 213 ls []) := by
  have hx := C.1
  have hb := C.2.1
  obtain ⟨x0, e1⟩ : ∃ y, xs (i + 1) = y := ⟨_, rfl⟩
  obtain ⟨x, e2⟩ : ∃ y, xs (i + 2) = y := ⟨_, rfl⟩
  refine lv_aload_n hx hb d_law_213 rfl (lv_at hl 1 rfl) ?_
  refine lw_ld (n := 1) (j := 1) hx hb hX hbl hw.2.2 hl rfl (by omega) hL e1 d_law_214 d_law_215 d_law_216 d_law_217 d_law_218 ?_
  refine lw_ld (n := 2) (j := 2) hx hb hX hbl hw.2.2 hl rfl (by omega) hL e2 d_law_219 d_law_220 d_law_221 d_law_222 d_law_223 ?_
  rcases tix x0 with ⟨t, ht, rfl⟩ | hn
  · obtain ⟨a, h1, bb, h2, ee, hJ2⟩ := J_rank hJ ht x
    refine x_rankV C ht h1 hw hl (fun H locs hw => ?_)
    refine lv_aload_n hx hb d_law_227 rfl (lv_at hl 2 rfl) ?_
    refine lw_ld (n := 1) (j := 1) hx hb hX hbl hw.2.2 hl rfl (by omega) hL e1 d_law_228 d_law_229 d_law_230 d_law_231 d_law_232 ?_
    refine lw_ld (n := 2) (j := 2) hx hb hX hbl hw.2.2 hl rfl (by omega) hL e2 d_law_233 d_law_234 d_law_235 d_law_236 d_law_237 ?_
    refine y_rank C h2 hw hl (fun H locs hw => ?_)
    refine lv_icmp_eq (tgt := 432) hx hb d_law_241 (by decide) (fun _ => ?_) (fun q => absurd (ee) q)
    exact kk _ _ H locs (hJ2) hw
  · refine x_rankN C (no_Brank hn) hw hl (fun H locs hw => ?_)
    refine lv_aload_n hx hb d_law_227 rfl (lv_at hl 2 rfl) ?_
    refine lw_ld (n := 1) (j := 1) hx hb hX hbl hw.2.2 hl rfl (by omega) hL e1 d_law_228 d_law_229 d_law_230 d_law_231 d_law_232 ?_
    refine lw_ld (n := 2) (j := 2) hx hb hX hbl hw.2.2 hl rfl (by omega) hL e2 d_law_233 d_law_234 d_law_235 d_law_236 d_law_237 ?_
    refine y_rank C (no_Rrank hn x) hw hl (fun H locs hw => ?_)
    refine lv_icmp_eq (tgt := 432) hx hb d_law_241 (by decide) (fun _ => ?_) (fun q => absurd (rfl) q)
    exact kk _ _ H locs (hJ) hw
theorem law_count (C : LX p s m c b dC dI cI cJ cB cZ cT cN) (hL : L ≤ 2560) (hi : i + 5 ≤ L) (hX : va_X b L xs s s.heap) (hbl : b < s.heap.size) (hl : lv_has ls 4 [(0, .ref b), (1, .ref (g 0)), (2, .ref (ha 0)), (3, .int (nI i))]) (hJ : J K R) (hw : LW s dC dI cI cJ cB cZ cT cN g ha NA ND K R H locs)
    (kk : ∀ (K : KS) (R : RS) (H : Heap) (locs : List Loc), J K R → LW s dC dI cI cJ cB cZ cT cN g ha NA ND K R H locs → W p l e room_1 s m #[Value.ref b] below meth c H locs 600000 7302250 Q (F0 m 432 ls [])) : W p l e room_1 s m #[Value.ref b] below meth c H locs 600000 7302250 Q (F0 m 246 ls []) := by
  have hx := C.1
  have hb := C.2.1
  obtain ⟨x0, e1⟩ : ∃ y, xs (i + 1) = y := ⟨_, rfl⟩
  obtain ⟨x, e2⟩ : ∃ y, xs (i + 2) = y := ⟨_, rfl⟩
  refine lv_aload_n hx hb d_law_246 rfl (lv_at hl 1 rfl) ?_
  refine lw_ld (n := 1) (j := 1) hx hb hX hbl hw.2.2 hl rfl (by omega) hL e1 d_law_247 d_law_248 d_law_249 d_law_250 d_law_251 ?_
  refine lw_ld (n := 2) (j := 2) hx hb hX hbl hw.2.2 hl rfl (by omega) hL e2 d_law_252 d_law_253 d_law_254 d_law_255 d_law_256 ?_
  rcases tix x0 with ⟨t, ht, rfl⟩ | hn
  · obtain ⟨a, h1, bb, h2, ee, hJ2⟩ := J_count hJ ht x
    refine x_countV C ht h1 hw hl (fun H locs hw => ?_)
    refine lv_aload_n hx hb d_law_260 rfl (lv_at hl 2 rfl) ?_
    refine lw_ld (n := 1) (j := 1) hx hb hX hbl hw.2.2 hl rfl (by omega) hL e1 d_law_261 d_law_262 d_law_263 d_law_264 d_law_265 ?_
    refine lw_ld (n := 2) (j := 2) hx hb hX hbl hw.2.2 hl rfl (by omega) hL e2 d_law_266 d_law_267 d_law_268 d_law_269 d_law_270 ?_
    refine y_count C h2 hw hl (fun H locs hw => ?_)
    refine lv_icmp_eq (tgt := 432) hx hb d_law_274 (by decide) (fun _ => ?_) (fun q => absurd (ee) q)
    exact kk _ _ H locs (hJ2) hw
  · refine x_countN C (no_Bcount hn) hw hl (fun H locs hw => ?_)
    refine lv_aload_n hx hb d_law_260 rfl (lv_at hl 2 rfl) ?_
    refine lw_ld (n := 1) (j := 1) hx hb hX hbl hw.2.2 hl rfl (by omega) hL e1 d_law_261 d_law_262 d_law_263 d_law_264 d_law_265 ?_
    refine lw_ld (n := 2) (j := 2) hx hb hX hbl hw.2.2 hl rfl (by omega) hL e2 d_law_266 d_law_267 d_law_268 d_law_269 d_law_270 ?_
    refine y_count C (no_Rcount hn x) hw hl (fun H locs hw => ?_)
    refine lv_icmp_eq (tgt := 432) hx hb d_law_274 (by decide) (fun _ => ?_) (fun q => absurd (rfl) q)
    exact kk _ _ H locs (hJ) hw
theorem law_member (C : LX p s m c b dC dI cI cJ cB cZ cT cN) (hL : L ≤ 2560) (hi : i + 5 ≤ L) (hX : va_X b L xs s s.heap) (hbl : b < s.heap.size) (hl : lv_has ls 4 [(0, .ref b), (1, .ref (g 0)), (2, .ref (ha 0)), (3, .int (nI i))]) (hJ : J K R) (hw : LW s dC dI cI cJ cB cZ cT cN g ha NA ND K R H locs)
    (kk : ∀ (K : KS) (R : RS) (H : Heap) (locs : List Loc), J K R → LW s dC dI cI cJ cB cZ cT cN g ha NA ND K R H locs → W p l e room_1 s m #[Value.ref b] below meth c H locs 600000 7302250 Q (F0 m 432 ls [])) : W p l e room_1 s m #[Value.ref b] below meth c H locs 600000 7302250 Q (F0 m 279 ls []) := by
  have hx := C.1
  have hb := C.2.1
  obtain ⟨x0, e1⟩ : ∃ y, xs (i + 1) = y := ⟨_, rfl⟩
  obtain ⟨x, e2⟩ : ∃ y, xs (i + 2) = y := ⟨_, rfl⟩
  obtain ⟨i, e3⟩ : ∃ y, xs (i + 3) = y := ⟨_, rfl⟩
  refine lv_aload_n hx hb d_law_279 rfl (lv_at hl 1 rfl) ?_
  refine lw_ld (n := 1) (j := 1) hx hb hX hbl hw.2.2 hl rfl (by omega) hL e1 d_law_280 d_law_281 d_law_282 d_law_283 d_law_284 ?_
  refine lw_ld (n := 2) (j := 2) hx hb hX hbl hw.2.2 hl rfl (by omega) hL e2 d_law_285 d_law_286 d_law_287 d_law_288 d_law_289 ?_
  refine lw_ld (n := 3) (j := 3) hx hb hX hbl hw.2.2 hl rfl (by omega) hL e3 d_law_290 d_law_291 d_law_292 d_law_293 d_law_294 ?_
  rcases tix x0 with ⟨t, ht, rfl⟩ | hn
  · obtain ⟨a, h1, bb, h2, ee, hJ2⟩ := J_member hJ ht x i
    refine x_memberV C ht h1 hw hl (fun H locs hw => ?_)
    refine lv_aload_n hx hb d_law_298 rfl (lv_at hl 2 rfl) ?_
    refine lw_ld (n := 1) (j := 1) hx hb hX hbl hw.2.2 hl rfl (by omega) hL e1 d_law_299 d_law_300 d_law_301 d_law_302 d_law_303 ?_
    refine lw_ld (n := 2) (j := 2) hx hb hX hbl hw.2.2 hl rfl (by omega) hL e2 d_law_304 d_law_305 d_law_306 d_law_307 d_law_308 ?_
    refine lw_ld (n := 3) (j := 3) hx hb hX hbl hw.2.2 hl rfl (by omega) hL e3 d_law_309 d_law_310 d_law_311 d_law_312 d_law_313 ?_
    refine y_member C h2 hw hl (fun H locs hw => ?_)
    refine lv_icmp_eq (tgt := 432) hx hb d_law_317 (by decide) (fun _ => ?_) (fun q => absurd (ee) q)
    exact kk _ _ H locs (hJ2) hw
  · refine x_memberN C (no_Bmember hn) hw hl (fun H locs hw => ?_)
    refine lv_aload_n hx hb d_law_298 rfl (lv_at hl 2 rfl) ?_
    refine lw_ld (n := 1) (j := 1) hx hb hX hbl hw.2.2 hl rfl (by omega) hL e1 d_law_299 d_law_300 d_law_301 d_law_302 d_law_303 ?_
    refine lw_ld (n := 2) (j := 2) hx hb hX hbl hw.2.2 hl rfl (by omega) hL e2 d_law_304 d_law_305 d_law_306 d_law_307 d_law_308 ?_
    refine lw_ld (n := 3) (j := 3) hx hb hX hbl hw.2.2 hl rfl (by omega) hL e3 d_law_309 d_law_310 d_law_311 d_law_312 d_law_313 ?_
    refine y_member C (no_Rmember hn x i) hw hl (fun H locs hw => ?_)
    refine lv_icmp_eq (tgt := 432) hx hb d_law_317 (by decide) (fun _ => ?_) (fun q => absurd (rfl) q)
    exact kk _ _ H locs (hJ) hw
theorem law_tutte (C : LX p s m c b dC dI cI cJ cB cZ cT cN) (hL : L ≤ 2560) (hi : i + 5 ≤ L) (hX : va_X b L xs s s.heap) (hbl : b < s.heap.size) (hl : lv_has ls 4 [(0, .ref b), (1, .ref (g 0)), (2, .ref (ha 0)), (3, .int (nI i))]) (hJ : J K R) (hw : LW s dC dI cI cJ cB cZ cT cN g ha NA ND K R H locs)
    (kk : ∀ (K : KS) (R : RS) (H : Heap) (locs : List Loc), J K R → LW s dC dI cI cJ cB cZ cT cN g ha NA ND K R H locs → W p l e room_1 s m #[Value.ref b] below meth c H locs 600000 7302250 Q (F0 m 432 ls [])) : W p l e room_1 s m #[Value.ref b] below meth c H locs 600000 7302250 Q (F0 m 322 ls []) := by
  have hx := C.1
  have hb := C.2.1
  obtain ⟨x0, e1⟩ : ∃ y, xs (i + 1) = y := ⟨_, rfl⟩
  obtain ⟨x, e2⟩ : ∃ y, xs (i + 2) = y := ⟨_, rfl⟩
  obtain ⟨y, e3⟩ : ∃ y, xs (i + 3) = y := ⟨_, rfl⟩
  refine lv_aload_n hx hb d_law_322 rfl (lv_at hl 1 rfl) ?_
  refine lw_ld (n := 1) (j := 1) hx hb hX hbl hw.2.2 hl rfl (by omega) hL e1 d_law_323 d_law_324 d_law_325 d_law_326 d_law_327 ?_
  refine lw_ld (n := 2) (j := 2) hx hb hX hbl hw.2.2 hl rfl (by omega) hL e2 d_law_328 d_law_329 d_law_330 d_law_331 d_law_332 ?_
  refine lw_ld (n := 3) (j := 3) hx hb hX hbl hw.2.2 hl rfl (by omega) hL e3 d_law_333 d_law_334 d_law_335 d_law_336 d_law_337 ?_
  rcases tix x0 with ⟨t, ht, rfl⟩ | hn
  · obtain ⟨a, h1, bb, h2, ee, c, cf, cc, eb, hJ2⟩ := J_tutte hJ ht x y
    refine x_tutteV C ht h1 hw hl (fun H locs hw => ?_)
    refine lv_aload_n hx hb d_law_341 rfl (lv_at hl 2 rfl) ?_
    refine lw_ld (n := 1) (j := 1) hx hb hX hbl hw.2.2 hl rfl (by omega) hL e1 d_law_342 d_law_343 d_law_344 d_law_345 d_law_346 ?_
    refine lw_ld (n := 2) (j := 2) hx hb hX hbl hw.2.2 hl rfl (by omega) hL e2 d_law_347 d_law_348 d_law_349 d_law_350 d_law_351 ?_
    refine lw_ld (n := 3) (j := 3) hx hb hX hbl hw.2.2 hl rfl (by omega) hL e3 d_law_352 d_law_353 d_law_354 d_law_355 d_law_356 ?_
    refine y_tutte C h2 hw hl (fun H locs hw => ?_)
    refine W.lcmp hx hb d_law_360 ?_
    refine lv_if_eq (tgt := 432) hx hb d_law_361 (by decide) (fun _ => ?_) (fun q => absurd (by rw [ee]; exact lg_cmp_self _) q)
    exact kk _ _ H locs (by rw [eb]; exact hJ2) hw
  · refine x_tutteN C (no_Btutte hn) hw hl (fun H locs hw => ?_)
    refine lv_aload_n hx hb d_law_341 rfl (lv_at hl 2 rfl) ?_
    refine lw_ld (n := 1) (j := 1) hx hb hX hbl hw.2.2 hl rfl (by omega) hL e1 d_law_342 d_law_343 d_law_344 d_law_345 d_law_346 ?_
    refine lw_ld (n := 2) (j := 2) hx hb hX hbl hw.2.2 hl rfl (by omega) hL e2 d_law_347 d_law_348 d_law_349 d_law_350 d_law_351 ?_
    refine lw_ld (n := 3) (j := 3) hx hb hX hbl hw.2.2 hl rfl (by omega) hL e3 d_law_352 d_law_353 d_law_354 d_law_355 d_law_356 ?_
    refine y_tutte C (no_Rtutte hn x y) hw hl (fun H locs hw => ?_)
    refine W.lcmp hx hb d_law_360 ?_
    refine lv_if_eq (tgt := 432) hx hb d_law_361 (by decide) (fun _ => ?_) (fun q => absurd (lg_cmp_self _) q)
    exact kk _ _ H locs (hJ) hw
theorem law_sign (C : LX p s m c b dC dI cI cJ cB cZ cT cN) (hL : L ≤ 2560) (hi : i + 5 ≤ L) (hX : va_X b L xs s s.heap) (hbl : b < s.heap.size) (hl : lv_has ls 4 [(0, .ref b), (1, .ref (g 0)), (2, .ref (ha 0)), (3, .int (nI i))]) (hJ : J K R) (hw : LW s dC dI cI cJ cB cZ cT cN g ha NA ND K R H locs)
    (kk : ∀ (K : KS) (R : RS) (H : Heap) (locs : List Loc), J K R → LW s dC dI cI cJ cB cZ cT cN g ha NA ND K R H locs → W p l e room_1 s m #[Value.ref b] below meth c H locs 600000 7302250 Q (F0 m 432 ls [])) : W p l e room_1 s m #[Value.ref b] below meth c H locs 600000 7302250 Q (F0 m 366 ls []) := by
  have hx := C.1
  have hb := C.2.1
  obtain ⟨x0, e1⟩ : ∃ y, xs (i + 1) = y := ⟨_, rfl⟩
  obtain ⟨x, e2⟩ : ∃ y, xs (i + 2) = y := ⟨_, rfl⟩
  refine lv_aload_n hx hb d_law_366 rfl (lv_at hl 1 rfl) ?_
  refine lw_ld (n := 1) (j := 1) hx hb hX hbl hw.2.2 hl rfl (by omega) hL e1 d_law_367 d_law_368 d_law_369 d_law_370 d_law_371 ?_
  refine lw_ld (n := 2) (j := 2) hx hb hX hbl hw.2.2 hl rfl (by omega) hL e2 d_law_372 d_law_373 d_law_374 d_law_375 d_law_376 ?_
  rcases tix x0 with ⟨t, ht, rfl⟩ | hn
  · obtain ⟨a, h1, bb, h2, ee, hJ2⟩ := J_sign hJ ht x
    refine x_signV C ht h1 hw hl (fun H locs hw => ?_)
    refine lv_aload_n hx hb d_law_380 rfl (lv_at hl 2 rfl) ?_
    refine lw_ld (n := 1) (j := 1) hx hb hX hbl hw.2.2 hl rfl (by omega) hL e1 d_law_381 d_law_382 d_law_383 d_law_384 d_law_385 ?_
    refine lw_ld (n := 2) (j := 2) hx hb hX hbl hw.2.2 hl rfl (by omega) hL e2 d_law_386 d_law_387 d_law_388 d_law_389 d_law_390 ?_
    refine y_sign C h2 hw hl (fun H locs hw => ?_)
    refine lv_icmp_eq (tgt := 432) hx hb d_law_394 (by decide) (fun _ => ?_) (fun q => absurd (ee) q)
    exact kk _ _ H locs (hJ2) hw
  · refine x_signN C (no_Bsign hn) hw hl (fun H locs hw => ?_)
    refine lv_aload_n hx hb d_law_380 rfl (lv_at hl 2 rfl) ?_
    refine lw_ld (n := 1) (j := 1) hx hb hX hbl hw.2.2 hl rfl (by omega) hL e1 d_law_381 d_law_382 d_law_383 d_law_384 d_law_385 ?_
    refine lw_ld (n := 2) (j := 2) hx hb hX hbl hw.2.2 hl rfl (by omega) hL e2 d_law_386 d_law_387 d_law_388 d_law_389 d_law_390 ?_
    refine y_sign C (no_Rsign hn x) hw hl (fun H locs hw => ?_)
    refine lv_icmp_eq (tgt := 432) hx hb d_law_394 (by decide) (fun _ => ?_) (fun q => absurd (rfl) q)
    exact kk _ _ H locs (hJ) hw
theorem law_below (C : LX p s m c b dC dI cI cJ cB cZ cT cN) (hL : L ≤ 2560) (hi : i + 5 ≤ L) (hX : va_X b L xs s s.heap) (hbl : b < s.heap.size) (hl : lv_has ls 4 [(0, .ref b), (1, .ref (g 0)), (2, .ref (ha 0)), (3, .int (nI i))]) (hJ : J K R) (hw : LW s dC dI cI cJ cB cZ cT cN g ha NA ND K R H locs)
    (kk : ∀ (K : KS) (R : RS) (H : Heap) (locs : List Loc), J K R → LW s dC dI cI cJ cB cZ cT cN g ha NA ND K R H locs → W p l e room_1 s m #[Value.ref b] below meth c H locs 600000 7302250 Q (F0 m 432 ls [])) : W p l e room_1 s m #[Value.ref b] below meth c H locs 600000 7302250 Q (F0 m 399 ls []) := by
  have hx := C.1
  have hb := C.2.1
  obtain ⟨x0, e1⟩ : ∃ y, xs (i + 1) = y := ⟨_, rfl⟩
  obtain ⟨x, e2⟩ : ∃ y, xs (i + 2) = y := ⟨_, rfl⟩
  refine lv_aload_n hx hb d_law_399 rfl (lv_at hl 1 rfl) ?_
  refine lw_ld (n := 1) (j := 1) hx hb hX hbl hw.2.2 hl rfl (by omega) hL e1 d_law_400 d_law_401 d_law_402 d_law_403 d_law_404 ?_
  refine lw_ld (n := 2) (j := 2) hx hb hX hbl hw.2.2 hl rfl (by omega) hL e2 d_law_405 d_law_406 d_law_407 d_law_408 d_law_409 ?_
  rcases tix x0 with ⟨t, ht, rfl⟩ | hn
  · obtain ⟨a, h1, bb, h2, ee, c, so, eb, hJ2⟩ := J_below hJ ht x
    refine x_belowV C ht h1 hw hl (fun H locs hw => ?_)
    refine lv_aload_n hx hb d_law_413 rfl (lv_at hl 2 rfl) ?_
    refine lw_ld (n := 1) (j := 1) hx hb hX hbl hw.2.2 hl rfl (by omega) hL e1 d_law_414 d_law_415 d_law_416 d_law_417 d_law_418 ?_
    refine lw_ld (n := 2) (j := 2) hx hb hX hbl hw.2.2 hl rfl (by omega) hL e2 d_law_419 d_law_420 d_law_421 d_law_422 d_law_423 ?_
    refine y_below C h2 hw hl (fun H locs hw => ?_)
    refine lv_icmp_eq (tgt := 432) hx hb d_law_427 (by decide) (fun _ => ?_) (fun q => absurd (ee) q)
    exact kk _ _ H locs (by rw [eb]; exact hJ2) hw
  · refine x_belowN C (no_Bbelow hn) hw hl (fun H locs hw => ?_)
    refine lv_aload_n hx hb d_law_413 rfl (lv_at hl 2 rfl) ?_
    refine lw_ld (n := 1) (j := 1) hx hb hX hbl hw.2.2 hl rfl (by omega) hL e1 d_law_414 d_law_415 d_law_416 d_law_417 d_law_418 ?_
    refine lw_ld (n := 2) (j := 2) hx hb hX hbl hw.2.2 hl rfl (by omega) hL e2 d_law_419 d_law_420 d_law_421 d_law_422 d_law_423 ?_
    refine y_below C (no_Rbelow hn x) hw hl (fun H locs hw => ?_)
    refine lv_icmp_eq (tgt := 432) hx hb d_law_427 (by decide) (fun _ => ?_) (fun q => absurd (rfl) q)
    exact kk _ _ H locs (hJ) hw
end LawCases
