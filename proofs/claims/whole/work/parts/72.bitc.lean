/-! the class: counting bits, clearing bits -/
theorem bc_all : (List.range 4096).all (fun S => decide (f_bitCount (nI S) = some (nI (cn S)))) = true := by decide +kernel
theorem bc_ok {S : Nat} (h : S < 4096) : ok (f_bitCount (nI S)) (fun r => r = nI (cn S)) :=
  ⟨_, of_decide_eq_true (List.all_eq_true.mp bc_all S (List.mem_range.mpr h)), rfl⟩
theorem nI_clr {S e : Nat} (hS : S < 2 ^ 31) (he : e < 31) : nI S &&& (((1 : Int32) <<< (nI e &&& 31)) ^^^ (-1)) = nI (if S.testBit e = true then tg S e else S) := by
  rw [nI_31 (by omega), nI_shl he]
  apply Int32.toBitVec_inj.mp
  rw [Int32.toBitVec_and, Int32.toBitVec_xor, nI_bv, nI_bv, nI_bv]
  have h1 : (-1 : Int32).toBitVec = BitVec.allOnes 32 := by decide
  rw [h1]
  apply BitVec.eq_of_getLsbD_eq
  intro i hi
  rw [BitVec.getLsbD_and, BitVec.getLsbD_xor, BitVec.getLsbD_allOnes, BitVec.getLsbD_ofNat, BitVec.getLsbD_ofNat, BitVec.getLsbD_ofNat, Nat.testBit_two_pow]
  simp only [hi, decide_true, Bool.true_and]
  by_cases q : S.testBit e = true
  · rw [if_pos q, tg_bit]
    by_cases q2 : e = i
    · subst q2; rw [q]; simp
    · simp [q2]
  · rw [if_neg q]
    by_cases q2 : e = i
    · subst q2
      have : S.testBit e = false := by simpa using q
      rw [this]; simp
    · simp [q2]
def ch : Nat → Nat → Nat
  | _, 0 => 1
  | 0, _ + 1 => 0
  | n + 1, k + 1 => ch n k + ch n (k + 1)
theorem ch_all : (List.range 13).all (fun n => (List.range (n + 1)).all (fun k => decide (f_choose (nI n) (nI k) = some (nI (ch n k))))) = true := by decide +kernel
theorem ch_ok {n k : Nat} (hn : n ≤ 12) (hk : k ≤ n) : ok (f_choose (nI n) (nI k)) (fun r => r = nI (ch n k)) :=
  ⟨_, of_decide_eq_true (List.all_eq_true.mp (List.all_eq_true.mp ch_all n (List.mem_range.mpr (by omega))) k (List.mem_range.mpr (by omega))), rfl⟩
