def uZ (c : Int32) : BitVec 64 := BitVec.setWidth 64 c.toBitVec
theorem ck4_bv (c : Int32) : (ck4 c).toBitVec = (c.toBitVec >>> 4) ^^^ (c4_tab.getD (c.toBitVec.toNat % 16) 0).toBitVec := by
  have h1 : (c &&& 15).toNatClampNeg = c.toBitVec.toNat % 16 := by
    rw [pk_and c 4 rfl, nI_clamp (by have := Nat.mod_lt c.toBitVec.toNat (show 2 ^ 4 > 0 by decide); omega)]
  have h2 : ((c.toUInt32 >>> ((4 : Int32).toUInt32 &&& Int32.toUInt32 31)).toInt32).toBitVec = c.toBitVec >>> 4 := by
    apply BitVec.eq_of_toNat_eq
    rw [pk_ushr c 4 4 (by decide)]
    simp [Nat.shiftRight_eq_div_pow]
  unfold ck4
  rw [h1, Int32.toBitVec_xor, h2]
theorem bs4_uZ (c : Int32) : bs4 (uZ c) = uZ (ck4 c) := by
  have hn : c.toBitVec.toNat % 16 < 16 := Nat.mod_lt _ (by decide)
  have h1 : BitVec.setWidth 64 c.toBitVec &&& 15#64 = BitVec.ofNat 64 (c.toBitVec.toNat % 16) := by
    apply BitVec.eq_of_toNat_eq
    have := c.toBitVec.isLt
    rw [BitVec.toNat_and, BitVec.toNat_setWidth, BitVec.toNat_ofNat]
    rw [show (15#64).toNat = 2 ^ 4 - 1 from rfl, Nat.and_two_pow_sub_one_eq_mod]
    omega
  unfold uZ
  rw [bs_split, bs4_xor, bs4_high, bs_hi, h1, bs4_low ⟨_, hn⟩, ck4_bv, BitVec.setWidth_xor]
