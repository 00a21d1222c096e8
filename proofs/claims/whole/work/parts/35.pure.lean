def uZ (c : Int32) : BitVec 64 := BitVec.setWidth 64 c.toBitVec
theorem ck4_bv (c : Int32) : (ck4 c).toBitVec = (c.toBitVec >>> 4) ^^^ (c4_tab.getD (c.toBitVec.toNat % 16) 0).toBitVec := by
  have h1 : (c &&& 15).toNatClampNeg = c.toBitVec.toNat % 16 := by
    rw [pk_and c 4 rfl, nI_clamp (by have := Nat.mod_lt c.toBitVec.toNat (show 2 ^ 4 > 0 by decide); omega)]
  have h2 : ((c.toUInt32 >>> ((4 : Int32).toUInt32 &&& Int32.toUInt32 31)).toInt32).toBitVec = c.toBitVec >>> 4 := by
    apply BitVec.eq_of_toNat_eq
    rw [pk_ushr c 4 4 (by decide)]
    simp [Nat.shiftRight_eq_div_pow]
  unfold ck4
  rw [h1, Int32.toBitVec_xor, h2]
theorem bs4_uZ (c : Int32) : bs4 (uZ c) = uZ (ck4 c) := by
  have hn : c.toBitVec.toNat % 16 < 16 := Nat.mod_lt _ (by decide)
  have h1 : BitVec.setWidth 64 c.toBitVec &&& 15#64 = BitVec.ofNat 64 (c.toBitVec.toNat % 16) := by
    apply BitVec.eq_of_toNat_eq
    have := c.toBitVec.isLt
    rw [BitVec.toNat_and, BitVec.toNat_setWidth, show (15#64).toNat = 2 ^ 4 - 1 from rfl, Nat.and_two_pow_sub_one_eq_mod, BitVec.toNat_ofNat]
    omega
  unfold uZ
  rw [bs_split, bs4_xor, bs4_high, bs_hi, h1, bs4_low ⟨_, hn⟩, ck4_bv, BitVec.setWidth_xor]
theorem bs1_lt {x : BitVec 64} (h : x.toNat < 2 ^ 32) : (bs1 x).toNat < 2 ^ 32 := by
  unfold bs1
  rw [BitVec.toNat_xor]
  apply Nat.xor_lt_two_pow
  · rw [BitVec.toNat_ushiftRight, Nat.shiftRight_eq_div_pow]; omega
  · split <;> decide
theorem sm1_bs {c : Int64} (h : c.toBitVec.toNat < 2 ^ 32) : (sm1 c).toBitVec = bs1 c.toBitVec := by
  have hm : c.toBitVec.msb = false := by
    rw [BitVec.msb_eq_decide]; simp; omega
  have e1 : (((1 : Int32).toInt64 &&& 63).toBitVec.smod 64) = 1#64 := by decide
  have e3 : (c >>> ((1 : Int32).toInt64 &&& 63)).toBitVec = c.toBitVec >>> 1 := by
    rw [Int64.toBitVec_shiftRight, e1]
    show c.toBitVec.sshiftRight (1#64).toNat = _
    rw [BitVec.sshiftRight_eq_of_msb_false hm]; rfl
  have e2 : (c &&& 1 = 1) ↔ c.toBitVec.getLsbD 0 = true := by
    rw [← Int64.toBitVec_inj, Int64.toBitVec_and, show (1 : Int64).toBitVec = 1#64 from rfl]
    constructor
    · intro z
      have := congrArg (fun t => t.getLsbD 0) z
      simpa using this
    · intro z
      apply BitVec.eq_of_getLsbD_eq
      intro i hi
      rw [BitVec.getLsbD_and, BitVec.getLsbD_one]
      by_cases h0 : i = 0
      · subst h0; simp [z]
      · simp [h0]
  unfold sm1 bs1
  rw [Int64.toBitVec_xor, e3]
  by_cases hc : c.toBitVec.getLsbD 0 = true
  · rw [if_pos (e2.mpr hc), if_pos hc]; rfl
  · rw [if_neg (fun z => hc (e2.mp z)), if_neg hc]; rfl
theorem smB_bs {c : Int64} {x : BitVec 64} (h : x.toNat < 2 ^ 32) (e : c.toBitVec = x) : (smB c 8).toBitVec = bs4 (bs4 x) ∧ (bs4 (bs4 x)).toNat < 2 ^ 32 := by
  subst e
  have st : ∀ {d : Int64} {y : BitVec 64}, d.toBitVec = y → y.toNat < 2 ^ 32 → (sm1 d).toBitVec = bs1 y ∧ (bs1 y).toNat < 2 ^ 32 := fun hd hy => by subst hd; exact ⟨sm1_bs hy, bs1_lt hy⟩
  obtain ⟨a1, b1⟩ := st rfl h
  obtain ⟨a2, b2⟩ := st a1 b1
  obtain ⟨a3, b3⟩ := st a2 b2
  obtain ⟨a4, b4⟩ := st a3 b3
  obtain ⟨a5, b5⟩ := st a4 b4
  obtain ⟨a6, b6⟩ := st a5 b5
  obtain ⟨a7, b7⟩ := st a6 b6
  obtain ⟨a8, b8⟩ := st a7 b7
  exact ⟨a8, b8⟩
/-- a byte of the model against one of the class -/
theorem b8_uZ (b : Int32) : ((b &&& 255).toInt64).toBitVec = uZ (b &&& 255) := by
  rw [pk_and b 8 rfl]
  have h := Nat.mod_lt b.toBitVec.toNat (show 2 ^ 8 > 0 by decide)
  generalize b.toBitVec.toNat % 2 ^ 8 = n at h
  rw [nI_l (by omega)]
  apply BitVec.eq_of_toNat_eq
  unfold uZ
  rw [BitVec.toNat_setWidth, pk_tn (by omega)]
  show (BitVec.ofNat 64 n).toNat = _
  rw [BitVec.toNat_ofNat]
theorem uZ_lt (c : Int32) : (uZ c).toNat < 2 ^ 32 := by
  unfold uZ
  have := c.toBitVec.isLt
  rw [BitVec.toNat_setWidth]; omega
theorem uZ_xor (a b : Int32) : uZ (a ^^^ b) = uZ a ^^^ uZ b := by
  unfold uZ
  rw [Int32.toBitVec_xor, BitVec.setWidth_xor]
theorem smC_ckC {f g : Nat → Int32} {a a' : Nat} : ∀ (n : Nat), (∀ j, j < n → g (a' + j) = f (a + j) &&& 255) → (smC g a' n).toBitVec = uZ (ckC f a n)
  | 0, _ => rfl
  | n + 1, h => by
    have ih := smC_ckC n (fun j hj => h j (by omega))
    have h1 : (smC g a' n ^^^ (g (a' + n)).toInt64).toBitVec = uZ (ckC f a n ^^^ (f (a + n) &&& 255)) := by
      rw [Int64.toBitVec_xor, ih, h n (by omega), b8_uZ, uZ_xor]
    have h2 := (smB_bs (uZ_lt _) h1).1
    rw [bs4_uZ, bs4_uZ] at h2
    exact h2
