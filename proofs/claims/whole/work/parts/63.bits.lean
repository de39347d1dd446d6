/-! bits of sets -/
theorem nI_bv (S : Nat) : (nI S).toBitVec = BitVec.ofNat 32 S := rfl
theorem nI_31 {c : Nat} (hc : c < 32) : nI c &&& 31 = nI c := by
  apply Int32.toBitVec_inj.mp
  rw [Int32.toBitVec_and, nI_bv]
  apply BitVec.eq_of_toNat_eq
  show (BitVec.ofNat 32 c &&& (31#32)).toNat = _
  rw [BitVec.toNat_and, BitVec.toNat_ofNat]
  show c % 2 ^ 32 &&& (2 ^ 5 - 1) = c % 2 ^ 32
  rw [Nat.and_two_pow_sub_one_eq_mod]
  omega
theorem nI_shr {S c : Nat} (hS : S < 2 ^ 31) (hc : c < 32) : nI S >>> nI c = nI (S / 2 ^ c) := by
  have h : ∀ c : Fin 32, ((nI c.val).toBitVec.smod 32).toNat = c.val := by decide
  exact pk_shrN hS (nI c) c (h ⟨c, hc⟩)
theorem nI_and {a b : Nat} (ha : a < 2 ^ 31) (hb : b < 2 ^ 31) : nI a &&& nI b = nI (a &&& b) := by
  apply Int32.toBitVec_inj.mp
  rw [Int32.toBitVec_and, nI_bv, nI_bv, nI_bv, BitVec.ofNat_and]
theorem nI_or {a b : Nat} : nI a ||| nI b = nI (a ||| b) := by
  apply Int32.toBitVec_inj.mp
  rw [Int32.toBitVec_or, nI_bv, nI_bv, nI_bv, BitVec.ofNat_or]
theorem nI_xor {a b : Nat} : nI a ^^^ nI b = nI (a ^^^ b) := by
  apply Int32.toBitVec_inj.mp
  rw [Int32.toBitVec_xor, nI_bv, nI_bv, nI_bv, BitVec.ofNat_xor]
theorem nI_shl {c : Nat} (hc : c < 31) : (1 : Int32) <<< nI c = nI (2 ^ c) := by
  have : ∀ c : Fin 31, (1 : Int32) <<< nI c.val = nI (2 ^ c.val) := by decide
  exact this ⟨c, hc⟩
theorem nI_bit {S c : Nat} (hS : S < 2 ^ 31) (hc : c < 31) : ((nI S >>> (nI c &&& 31)) &&& 1 = 1) ↔ S.testBit c = true := by
  rw [nI_31 (by omega), nI_shr hS (by omega), show (1 : Int32) = nI 1 from rfl, nI_and (Nat.lt_of_le_of_lt (Nat.div_le_self _ _) hS) (by decide), nI_eq (Nat.lt_of_le_of_lt Nat.and_le_right (by decide)) (by decide), Nat.and_one_is_mod, Nat.testBit_eq_decide_div_mod_eq]
  simp
