/-! bytes of numbers, bit by bit -/
theorem b255_bits (x : Int32) (i : Nat) (hi : i < 8) : (uZ (x.toInt8.toInt32 &&& 255)).getLsbD i = x.toBitVec.getLsbD i := by
  rw [b255]
  unfold uZ
  rw [BitVec.getLsbD_setWidth, Int32.toBitVec_and, BitVec.getLsbD_and]
  have : ∀ j : Fin 8, ((255 : Int32).toBitVec).getLsbD j.val = true := by decide
  rw [this ⟨i, hi⟩]
  simp [show i < 64 by omega]
theorem shr_bits (v : Int64) (s i : Nat) (hs : s < 8) (hi : i < 8) : ((v >>> ((8 * nI s).toInt64 &&& 63)).toInt32).toBitVec.getLsbD i = v.toBitVec.getLsbD (8 * s + i) := by
  have e : ((8 * nI s).toInt64 &&& 63) = lN (8 * s) := by
    rw [show (8 * nI s : Int32) = nI (8 * s) from by rw [show (8 : Int32) = nI 8 from rfl]; exact pk_mul 8 s]
    exact wb_c _ (by omega)
  rw [Int64.toBitVec_toInt32, BitVec.signExtend_eq_setWidth_of_le _ (by decide), BitVec.getLsbD_setWidth, e, Int64.toBitVec_shiftRight]
  have h2 : (lN (8 * s)).toBitVec.smod 64 = BitVec.ofNat 64 (8 * s) := wb_sm _ (by omega)
  rw [h2]
  show (decide (i < 32) && (v.toBitVec.sshiftRight (BitVec.ofNat 64 (8 * s)).toNat).getLsbD i) = _
  rw [BitVec.toNat_ofNat, Nat.mod_eq_of_lt (by omega), BitVec.getLsbD_sshiftRight]
  simp [show i < 32 by omega, show 8 * s + i < 64 by omega, show ¬ 64 ≤ i by omega]
theorem pb1_bits (v : Int64) (s i : Nat) (hs : s < 8) (hi : i < 8) : (uZ (pb1 v s &&& 255)).getLsbD i = v.toBitVec.getLsbD (8 * s + i) := by
  unfold pb1
  rw [b255_bits _ _ hi, shr_bits v s i hs hi]
theorem By_bits {a b : Int32} (ha : By a) (hb : By b) (h : ∀ i, i < 8 → (uZ (a &&& 255)).getLsbD i = (uZ (b &&& 255)).getLsbD i) : a = b := by
  have e : uZ (a &&& 255) = uZ (b &&& 255) := by
    apply BitVec.eq_of_getLsbD_eq
    intro i hi
    by_cases g : i < 8
    · exact h i g
    · have := hB_hi (fun _ => a) 0 0 i (by omega)
      have h2 := hB_hi (fun _ => b) 0 0 i (by omega)
      unfold hB at this h2
      rw [this, h2]
  rw [uZ_inj] at e
  have key : ∀ (x y : BitVec 8), (Int8.ofBitVec x).toInt32 &&& 255 = (Int8.ofBitVec y).toInt32 &&& 255 → x = y := by
    intro x y h
    have h2 := congrArg Int32.toBitVec h
    rw [Int32.toBitVec_and, Int32.toBitVec_and, Int8.toBitVec_toInt32, Int8.toBitVec_toInt32] at h2
    apply BitVec.eq_of_getLsbD_eq
    intro i hi
    have h3 := congrArg (fun z => z.getLsbD i) h2
    simp only [BitVec.getLsbD_and, BitVec.getLsbD_signExtend] at h3
    have : ∀ j : Fin 8, ((255 : Int32).toBitVec).getLsbD j.val = true := by decide
    rw [this ⟨i, hi⟩] at h3
    simpa [hi, show i < 32 by omega] using h3
  unfold By at ha hb
  rw [← ha, ← hb] at e ⊢
  have := key a.toInt8.toBitVec b.toInt8.toBitVec e
  rw [Int8.toBitVec_inj] at this
  rw [this]
theorem pb1_ext {v w : Int64} {s : Nat} (hs : s < 8) (h : ∀ i, i < 8 → v.toBitVec.getLsbD (8 * s + i) = w.toBitVec.getLsbD (8 * s + i)) : pb1 v s = pb1 w s :=
  By_bits (By_8 _) (By_8 _) (fun i hi => by rw [pb1_bits v s i hs hi, pb1_bits w s i hs hi, h i hi])
theorem pb_ext {v w : Int64} : ∀ {n : Nat}, n ≤ 8 → (∀ i, i < 8 * n → v.toBitVec.getLsbD i = w.toBitVec.getLsbD i) → pb v n = pb w n
  | 0, _, _ => rfl
  | n + 1, hn, h => by
    simp only [pb]
    rw [pb1_ext (by omega) (fun i hi => h _ (by omega)), pb_ext (by omega) (fun i hi => h i (by omega))]
theorem pb_getD (v : Int64) : ∀ (n j : Nat), j < n → (pb v n).getD j 0 = pb1 v (n - 1 - j)
  | 0, _, h => by omega
  | n + 1, 0, _ => by simp [pb]
  | n + 1, j + 1, h => by
    simp only [pb, List.getD_cons_succ]
    rw [pb_getD v n j (by omega)]; congr 1; omega
theorem beU_pb {f : Nat → Int32} {a n : Nat} {v : Int64} (h : Lie f a (pb v n)) (hn : n ≤ 8) (i : Nat) (hi : i < 64) : (beU f a n).toBitVec.getLsbD i = if i < 8 * n then v.toBitVec.getLsbD i else false := by
  rw [beU_bU, bU_bit (s := false) (fun i _ => by simp) (hB_hi f a) n i hi]
  by_cases g : i < 8 * n
  · rw [if_pos g, if_pos g]
    unfold hB
    rw [Lie_get h (by rw [pb_len]; omega), pb_getD v n _ (by omega), pb1_bits _ _ _ (by omega) (by omega)]
    congr 1; omega
  · rw [if_neg g, if_neg g]
theorem beS_pb8 {f : Nat → Int32} {a : Nat} {v : Int64} (h : Lie f a (pb v 8)) : beS f a 8 = v := by
  rw [← Int64.toBitVec_inj]
  unfold beS
  rw [shS _ 8 (by simp)]
  apply BitVec.eq_of_getLsbD_eq
  intro i hi
  have := beU_pb h (by omega) i hi
  rw [if_pos (by omega)] at this
  simpa using this
theorem beS_pb4 {f : Nat → Int32} {a : Nat} {v : Int64} (h : Lie f a (pb v 4)) : beS f a 4 = v.toInt32.toInt64 := by
  have hk : (beS f a 4).toInt32 = v.toInt32 := by
    rw [← Int32.toBitVec_inj]
    have e := uZ_beS f a
    have e2 := congrArg (fun z : BitVec 64 => z.setWidth 32) e
    unfold uZ at e2
    have e3 : ((beS f a 4).toInt32).toBitVec = (beU f a 4).toBitVec.setWidth 32 := by
      rw [e2]; simp
    rw [e3, Int64.toBitVec_toInt32, BitVec.signExtend_eq_setWidth_of_le _ (by decide)]
    apply BitVec.eq_of_getLsbD_eq
    intro i hi
    rw [BitVec.getLsbD_setWidth, BitVec.getLsbD_setWidth, beU_pb h (by omega) i (by omega), if_pos (by omega)]
  rw [← beS4_ext, hk]
theorem beS_pb4N {f : Nat → Int32} {a n : Nat} (h : Lie f a (pb (lN n) 4)) (hn : n < 2 ^ 31) : beS f a 4 = lN n := by
  rw [beS_pb4 h, lN_i, nI_l hn]
theorem pb4_low {v w : Int64} (h : v.toInt32 = w.toInt32) : pb v 4 = pb w 4 := by
  refine pb_ext (by omega) (fun i hi => ?_)
  have := congrArg (fun x : Int32 => x.toBitVec.getLsbD i) h
  simp only [Int64.toBitVec_toInt32] at this
  rw [BitVec.signExtend_eq_setWidth_of_le _ (by decide), BitVec.signExtend_eq_setWidth_of_le _ (by decide), BitVec.getLsbD_setWidth, BitVec.getLsbD_setWidth] at this
  simpa [show i < 32 by omega] using this
theorem pb_back {f : Nat → Int32} {a : Nat} (h : ∀ j, j < 8 → By (f (a + j))) : Lie f a (pb (beS f a 8) 8) := by
  refine Lie_of (fun j hj => ?_)
  rw [pb_len] at hj
  rw [pb_getD _ _ _ hj]
  refine By_bits (h j hj) (By_8 _) (fun i hi => ?_)
  rw [pb1_bits _ _ _ (by omega) hi]
  unfold beS
  rw [shS _ 8 (by simp), show (64 - 8 * 8 : Nat) = 0 from rfl]
  have e := bU_bit (s := false) (z := 0#64) (fun i _ => by simp) (hB_hi f a) 8 (8 * (8 - 1 - j) + i) (by omega)
  rw [← beU_bU, if_pos (by omega)] at e
  simp only [BitVec.shiftLeft_zero, BitVec.sshiftRight_zero] at e ⊢
  rw [e]
  unfold hB
  rw [show 8 - 1 - (8 * (8 - 1 - j) + i) / 8 = j by omega, show (8 * (8 - 1 - j) + i) % 8 = i by omega]
