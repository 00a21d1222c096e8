theorem bs4_low : ∀ n : Fin 16, bs4 (BitVec.ofNat 64 n.val) = BitVec.setWidth 64 ((c4_tab.getD n.val 0).toBitVec) := by decide +kernel
theorem bs_split (c : BitVec 32) : BitVec.setWidth 64 c = ((BitVec.setWidth 64 c >>> 4) <<< 4) ^^^ (BitVec.setWidth 64 c &&& 15#64) := by
  apply BitVec.eq_of_getLsbD_eq
  intro i hi
  simp only [BitVec.getLsbD_xor, BitVec.getLsbD_and, BitVec.getLsbD_shiftLeft, BitVec.getLsbD_ushiftRight]
  by_cases h : i < 4
  · rcases (show i = 0 ∨ i = 1 ∨ i = 2 ∨ i = 3 by omega) with rfl | rfl | rfl | rfl <;> simp <;> decide
  · have h15 : (15#64).getLsbD i = false := by
      have : ∀ j : Fin 64, 4 ≤ j.val → (15#64).getLsbD j.val = false := by decide
      exact this ⟨i, hi⟩ (show 4 ≤ i by omega)
    rw [h15]
    simp [h, hi, show 4 + (i - 4) = i from by omega]
theorem bs_hi (c : BitVec 32) : ((BitVec.setWidth 64 c >>> 4) <<< 4) >>> 4 = BitVec.setWidth 64 (c >>> 4) := by
  apply BitVec.eq_of_getLsbD_eq
  intro i hi
  simp only [BitVec.getLsbD_shiftLeft, BitVec.getLsbD_ushiftRight, BitVec.getLsbD_setWidth]
  by_cases h : 4 + i < 32
  · simp [show 4 + i < 64 from by omega, hi, show ¬ 4 + i < 4 from by omega]
  · rw [BitVec.getLsbD_of_ge c (4 + i) (by omega)]
    simp [BitVec.getLsbD_of_ge c (4 + i) (by omega)]
