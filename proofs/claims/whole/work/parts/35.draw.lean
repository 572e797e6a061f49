/-! layer 2: a draw -/
theorem ushr_nat (x : Int32) : ∃ m, m < 65536 ∧ jushr x 16 = nI m := by
  refine ⟨x.toUInt32.toNat / 65536, ?_, ?_⟩
  · have := x.toUInt32.toNat_lt
    omega
  · have h := x.toUInt32.toNat_lt
    have e : (x.toUInt32 >>> 16) = UInt32.ofNat (x.toUInt32.toNat / 65536) := by
      apply UInt32.toNat_inj.mp
      rw [UInt32.toNat_shiftRight, UInt32.toNat_ofNat_of_lt' (by show _ < 2 ^ 32; omega)]
      show x.toUInt32.toNat >>> 16 = _
      rw [Nat.shiftRight_eq_div_pow]
    show (x.toUInt32 >>> 16).toInt32 = (UInt32.ofNat (x.toUInt32.toNat / 65536)).toInt32
    rw [e]
theorem nI_mod {a b : Nat} (ha : a < 2 ^ 31) (hb : b < 2 ^ 31) : nI a - nI a / nI b * nI b = nI (a % b) := by
  have h := Nat.div_add_mod a b
  have h2 : b * (a / b) = a / b * b := Nat.mul_comm _ _
  rw [nI_div ha hb, nI_mul, nI_sub (Nat.div_mul_le_self a b)]
  congr 1
  omega
