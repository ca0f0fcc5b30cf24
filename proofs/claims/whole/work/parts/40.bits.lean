/-! bits of small numbers -/
theorem nI_bv (n : Nat) : (nI n).toBitVec = BitVec.ofNat 32 n := rfl
theorem nI_or (a b : Nat) : nI a ||| nI b = nI (a ||| b) := by
  apply Int32.toBitVec_inj.mp
  rw [nI_bv, BitVec.ofNat_or]; rfl
theorem nI_and (a b : Nat) : nI a &&& nI b = nI (a &&& b) := by
  apply Int32.toBitVec_inj.mp
  rw [nI_bv, BitVec.ofNat_and]; rfl
theorem nI_xor (a b : Nat) : nI a ^^^ nI b = nI (a ^^^ b) := by
  apply Int32.toBitVec_inj.mp
  rw [nI_bv, BitVec.ofNat_xor]; rfl
theorem nI_31 {k : Nat} (h : k < 32) : ((nI k &&& 31).toBitVec.smod 32).toNat = k := by
  have : ∀ j : Fin 32, ((nI j.val &&& 31).toBitVec.smod 32).toNat = j.val := by decide
  exact this ⟨k, h⟩
theorem nI_shl {a k : Nat} (h : k < 32) : nI a <<< (nI k &&& 31) = nI (a <<< k) := by
  apply Int32.toBitVec_inj.mp
  show (BitVec.ofNat 32 a) <<< ((nI k &&& 31).toBitVec.smod 32) = BitVec.ofNat 32 (a <<< k)
  apply BitVec.eq_of_toNat_eq
  rw [BitVec.shiftLeft_eq', BitVec.toNat_shiftLeft, nI_31 h, BitVec.toNat_ofNat, BitVec.toNat_ofNat, Nat.shiftLeft_eq, Nat.shiftLeft_eq, Nat.mul_mod, Nat.mod_mod, ← Nat.mul_mod]
theorem nI_shr {a k : Nat} (ha : a < 2 ^ 31) (h : k < 32) : nI a >>> (nI k &&& 31) = nI (a >>> k) := by
  apply Int32.toBitVec_inj.mp
  show (BitVec.ofNat 32 a).sshiftRight' ((nI k &&& 31).toBitVec.smod 32) = BitVec.ofNat 32 (a >>> k)
  show (BitVec.ofNat 32 a).sshiftRight ((nI k &&& 31).toBitVec.smod 32).toNat = BitVec.ofNat 32 (a >>> k)
  rw [nI_31 h, BitVec.sshiftRight_eq_of_msb_false]
  · apply BitVec.eq_of_toNat_eq
    rw [BitVec.toNat_ushiftRight, BitVec.toNat_ofNat, BitVec.toNat_ofNat, Nat.mod_eq_of_lt (by omega), Nat.mod_eq_of_lt]
    have := Nat.shiftRight_le a k
    omega
  · rw [BitVec.msb_eq_false_iff_two_mul_lt, BitVec.toNat_ofNat, Nat.mod_eq_of_lt (by omega)]
    omega
theorem nI_bit1 {a k : Nat} (ha : a < 2 ^ 31) (h : k < 32) : (nI a >>> (nI k &&& 31)) &&& 1 = nI ((a.testBit k).toNat) := by
  rw [nI_shr ha h, show (1 : Int32) = nI 1 from rfl, nI_and, Nat.and_comm]
  congr 1
  rw [Nat.one_and_eq_mod_two]
  rw [Nat.testBit_eq_decide_div_mod_eq, Nat.shiftRight_eq_div_pow]
  have : a / 2 ^ k % 2 < 2 := Nat.mod_lt _ (by omega)
  by_cases e : a / 2 ^ k % 2 = 1
  · rw [e]; rfl
  · rw [decide_eq_false e]
    show a / 2 ^ k % 2 = 0
    omega
theorem nI_bit {a k : Nat} (ha : a < 2 ^ 31) (h : k < 32) : (nI a >>> (nI k &&& 31)) &&& 1 = 1 ↔ a.testBit k = true := by
  rw [nI_bit1 ha h]
  cases a.testBit k <;> decide
theorem nI_pow {k : Nat} (h : k < 32) : (1 : Int32) <<< (nI k &&& 31) = nI (2 ^ k) := by
  rw [show (1 : Int32) = nI 1 from rfl, nI_shl h, Nat.one_shiftLeft]
theorem or_lt {a k D : Nat} (ha : a < 2 ^ D) (hk : k < D) : a ||| 2 ^ k < 2 ^ D := Nat.or_lt_two_pow ha (Nat.pow_lt_pow_right (by omega) hk)
theorem or_bit (a k j : Nat) : (a ||| 2 ^ k).testBit j = (a.testBit j || decide (k = j)) := by
  rw [Nat.testBit_or, Nat.testBit_two_pow]
