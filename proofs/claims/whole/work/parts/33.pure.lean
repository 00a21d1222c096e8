/-! the two checksums are one: over 64 bits, a step is linear -/
def bs1 (c : BitVec 64) : BitVec 64 := (c >>> 1) ^^^ (if c.getLsbD 0 then 2197175160#64 else 0#64)
theorem bx_pp (a b p : BitVec 64) : a ^^^ b = (a ^^^ p) ^^^ (b ^^^ p) := by
  rw [show (a ^^^ p) ^^^ (b ^^^ p) = (a ^^^ b) ^^^ (p ^^^ p) from by ac_rfl, BitVec.xor_self, BitVec.xor_zero]
theorem bs1_xor (x y : BitVec 64) : bs1 (x ^^^ y) = bs1 x ^^^ bs1 y := by
  unfold bs1
  rw [BitVec.ushiftRight_xor_distrib, BitVec.getLsbD_xor]
  cases x.getLsbD 0 <;> cases y.getLsbD 0
  · simp
  · simp; ac_rfl
  · simp; ac_rfl
  · simp only [Bool.xor_self, Bool.false_eq_true, if_false, if_true, BitVec.xor_zero]
    exact bx_pp _ _ _
def bs4 (c : BitVec 64) : BitVec 64 := bs1 (bs1 (bs1 (bs1 c)))
theorem bs4_xor (x y : BitVec 64) : bs4 (x ^^^ y) = bs4 x ^^^ bs4 y := by simp only [bs4, bs1_xor]
theorem bs1_even {x : BitVec 64} (h : x.getLsbD 0 = false) : bs1 x = x >>> 1 := by
  unfold bs1
  rw [h]
  simp
theorem bs4_high (c : BitVec 64) : bs4 (c <<< 4) = (c <<< 4) >>> 4 := by
  unfold bs4
  rw [bs1_even (x := c <<< 4) (by simp)]
  rw [bs1_even (x := c <<< 4 >>> 1) (by simp)]
  rw [bs1_even (x := c <<< 4 >>> 1 >>> 1) (by simp)]
  rw [bs1_even (x := c <<< 4 >>> 1 >>> 1 >>> 1) (by simp)]
  simp only [← BitVec.shiftRight_add]
