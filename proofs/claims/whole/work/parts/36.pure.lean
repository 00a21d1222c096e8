/-! numbers of bytes: the class's and the model's are one -/
def bU (z : BitVec 64) (h : Nat → BitVec 64) : Nat → BitVec 64
  | 0 => z
  | n + 1 => (bU z h n <<< 8) ||| h n
theorem bU_bit {z : BitVec 64} {h : Nat → BitVec 64} {s : Bool} (hz : ∀ i, i < 64 → z.getLsbD i = s) (hh : ∀ k i, 8 ≤ i → (h k).getLsbD i = false) : ∀ (n i : Nat), i < 64 → (bU z h n).getLsbD i = if i < 8 * n then (h (n - 1 - i / 8)).getLsbD (i % 8) else s
  | 0, i, hi => by rw [if_neg (by omega)]; exact hz i hi
  | n + 1, i, hi => by
    simp only [bU, BitVec.getLsbD_or, BitVec.getLsbD_shiftLeft]
    by_cases h8 : i < 8
    · rw [if_pos (by omega), show n + 1 - 1 - i / 8 = n from by omega, show i % 8 = i from by omega]
      simp [h8]
    · rw [hh n i (by omega), bU_bit hz hh n (i - 8) (by omega)]
      by_cases hn : i < 8 * (n + 1)
      · rw [if_pos (by omega), if_pos hn, show n + 1 - 1 - i / 8 = n - 1 - (i - 8) / 8 from by omega, show i % 8 = (i - 8) % 8 from by omega]
        simp [h8, hi]
      · rw [if_neg (by omega), if_neg hn]
        simp [h8, hi]
def hB (f : Nat → Int32) (a : Nat) : Nat → BitVec 64 := fun j => uZ (f (a + j) &&& 255)
theorem sh8 (x : Int64) : (x <<< ((8 : Int32).toInt64 &&& 63)).toBitVec = x.toBitVec <<< 8 := by
  rw [Int64.toBitVec_shiftLeft, show (((8 : Int32).toInt64 &&& 63).toBitVec.smod 64) = 8#64 from by decide]
  rfl
theorem beU_bU (f : Nat → Int32) (a : Nat) : ∀ n, (beU f a n).toBitVec = bU 0#64 (hB f a) n
  | 0 => rfl
  | n + 1 => by
    simp only [beU, bU]
    rw [Int64.toBitVec_or, sh8, beU_bU f a n, b8_uZ]
    rfl
theorem moN_bU {f g : Nat → Int32} {a a' : Nat} (z : Int64) : ∀ n, (∀ j, j < n → g (a' + j) = f (a + j) &&& 255) → (moN g a' z n).toBitVec = bU z.toBitVec (hB f a) n
  | 0, _ => rfl
  | n + 1, h => by
    simp only [moN, bU]
    rw [Int64.toBitVec_or, sh8, moN_bU z n (fun j hj => h j (by omega)), h n (by omega), b8_uZ]
    rfl
theorem and255 (x : Int32) : ∃ v : Nat, v < 256 ∧ x &&& 255 = nI v := pk_andE x 8 rfl
theorem uZ_nI {v : Nat} (h : v < 2 ^ 32) : uZ (nI v) = BitVec.ofNat 64 v := by
  apply BitVec.eq_of_toNat_eq
  unfold uZ
  rw [BitVec.toNat_setWidth, pk_tn h, BitVec.toNat_ofNat]
theorem hB_hi (f : Nat → Int32) (a k i : Nat) (hi : 8 ≤ i) : (hB f a k).getLsbD i = false := by
  unfold hB
  obtain ⟨v, hv, e⟩ := and255 (f (a + k))
  rw [e, uZ_nI (by omega), BitVec.getLsbD_ofNat]
  have : v.testBit i = false := Nat.testBit_lt_two_pow (Nat.lt_of_lt_of_le hv (Nat.pow_le_pow_right (n := 2) (by decide) hi))
  rw [this, Bool.and_false]
theorem b7_127 : ∀ v : Fin 256, (BitVec.ofNat 64 v.val).getLsbD 7 = decide (¬ (nI v.val) ≤ 127) := by decide +kernel
theorem hB_7 (f : Nat → Int32) (a : Nat) : (hB f a 0).getLsbD 7 = decide (¬ (f a &&& 255) ≤ 127) := by
  unfold hB
  obtain ⟨v, hv, e⟩ := and255 (f a)
  rw [Nat.add_zero, e, uZ_nI (by omega)]
  exact b7_127 ⟨v, hv⟩
theorem shS (x : Int64) (n : Nat) (hn : n = 2 ∨ n = 4 ∨ n = 8) : ((x <<< ((64 - 8 * nI n).toInt64 &&& 63)) >>> ((64 - 8 * nI n).toInt64 &&& 63)).toBitVec = (x.toBitVec <<< (64 - 8 * n)).sshiftRight (64 - 8 * n) := by
  have key : (((64 - 8 * nI n).toInt64 &&& 63).toBitVec.smod 64) = BitVec.ofNat 64 (64 - 8 * n) := by
    rcases hn with rfl | rfl | rfl <;> decide
  have kn : (BitVec.ofNat 64 (64 - 8 * n)).toNat = 64 - 8 * n := by rw [BitVec.toNat_ofNat]; omega
  rw [Int64.toBitVec_shiftRight, Int64.toBitVec_shiftLeft, key]
  show (x.toBitVec <<< (BitVec.ofNat 64 (64 - 8 * n)).toNat).sshiftRight (BitVec.ofNat 64 (64 - 8 * n)).toNat = _
  rw [kn]
theorem beS_moS {f g : Nat → Int32} {a a' : Nat} {n : Nat} (hn : n = 2 ∨ n = 4 ∨ n = 8) (h : ∀ j, j < n → g (a' + j) = f (a + j) &&& 255) : beS f a n = moS g a' n := by
  have hn8 : 1 ≤ n ∧ n ≤ 8 := by omega
  rw [← Int64.toBitVec_inj]
  unfold beS moS
  rw [shS _ n hn, beU_bU, moN_bU _ n h]
  have hz : ∀ i, i < 64 → (if g a' ≤ 127 then (0 : Int64) else -1).toBitVec.getLsbD i = (hB f a 0).getLsbD 7 := by
    intro i hi
    rw [hB_7]
    have := h 0 (by omega)
    rw [Nat.add_zero, Nat.add_zero] at this
    rw [this]
    by_cases c : (f a &&& 255) ≤ 127
    · rw [if_pos c]; simp [c]
    · rw [if_neg c]
      have : ∀ j : Fin 64, (-1 : Int64).toBitVec.getLsbD j.val = true := by decide +kernel
      rw [this ⟨i, hi⟩]; simp [c]
  have h0 : ∀ i, i < 64 → (0#64).getLsbD i = false := by intro i _; simp
  apply BitVec.eq_of_getLsbD_eq
  intro i hi
  rw [bU_bit hz (hB_hi f a) n i hi, BitVec.getLsbD_sshiftRight]
  by_cases c : i < 8 * n
  · rw [if_pos (show 64 - 8 * n + i < 64 by omega), if_pos c, BitVec.getLsbD_shiftLeft, show 64 - 8 * n + i - (64 - 8 * n) = i from by omega, bU_bit h0 (hB_hi f a) n i hi, if_pos c]
    simp [hi, show 64 - 8 * n + i < 64 by omega, show ¬ (64 - 8 * n + i < 64 - 8 * n) by omega]
  · rw [if_neg (show ¬ 64 - 8 * n + i < 64 by omega), if_neg c, BitVec.msb_eq_getLsbD_last, BitVec.getLsbD_shiftLeft, show 64 - 1 - (64 - 8 * n) = 8 * n - 1 from by omega, bU_bit h0 (hB_hi f a) n (8 * n - 1) (by omega), if_pos (by omega), show n - 1 - (8 * n - 1) / 8 = 0 from by omega, show (8 * n - 1) % 8 = 7 from by omega]
    simp [hi, show ¬ (64 - 1 < 64 - 8 * n) by omega]
theorem beU_congr {f g : Nat → Int32} {a a' : Nat} : ∀ {n : Nat}, (∀ j, j < n → f (a + j) = g (a' + j)) → beU f a n = beU g a' n
  | 0, _ => rfl
  | n + 1, h => by
    simp only [beU]
    rw [beU_congr (n := n) (fun j hj => h j (by omega)), h n (by omega)]
theorem beS_congr {f g : Nat → Int32} {a a' : Nat} {n : Nat} (h : ∀ j, j < n → f (a + j) = g (a' + j)) : beS f a n = beS g a' n := by
  unfold beS
  rw [beU_congr h]
theorem ckC_congr {f g : Nat → Int32} {a a' : Nat} : ∀ {n : Nat}, (∀ j, j < n → f (a + j) = g (a' + j)) → ckC f a n = ckC g a' n
  | 0, _ => rfl
  | n + 1, h => by
    simp only [ckC]
    rw [ckC_congr (n := n) (fun j hj => h j (by omega)), h n (by omega)]
