theorem wb_tb (n : Nat) : (lN n).toBitVec = BitVec.ofNat 64 n := rfl
theorem wb_inj {a b : Int64} (h : a.toBitVec = b.toBitVec) : a = b := Int64.toBitVec_inj.mp h
theorem wb_tn {n : Nat} (h : n < 2 ^ 64) : (lN n).toBitVec.toNat = n := by rw [wb_tb, BitVec.toNat_ofNat, Nat.mod_eq_of_lt h]
theorem wb_of (x : Int64) : ∃ n, n < 2 ^ 64 ∧ x = lN n := ⟨x.toBitVec.toNat, x.toBitVec.isLt, wb_inj (by rw [wb_tb]; simp)⟩
theorem wb_of32 (x : Int32) : ∃ n, n < 2 ^ 32 ∧ x = nI n := ⟨x.toBitVec.toNat, x.toBitVec.isLt, Int32.toBitVec_inj.mp (by show _ = BitVec.ofNat 32 _; simp)⟩
theorem wb_c : ∀ k, k < 64 → ((nI k).toInt64 &&& 63) = lN k := by decide +kernel
theorem wb_cu : ∀ k, k < 64 → ((nI k).toInt64.toUInt64 &&& Int64.toUInt64 63) = UInt64.ofNat k := by decide +kernel
theorem wb_sm : ∀ k, k < 64 → (BitVec.ofNat 64 k).smod 64 = BitVec.ofNat 64 k := by decide +kernel
theorem wb_pw {a b : Nat} (h : a ≤ b) : 2 ^ b = 2 ^ a * 2 ^ (b - a) := by rw [← Nat.pow_add]; congr 1; omega
theorem wb_lt2 {a b : Nat} (h : a < b) : 2 ^ a < 2 ^ b := Nat.pow_lt_pow_right (by decide) h
theorem wb_mod (n : Nat) : lN n = lN (n % 2 ^ 64) := wb_inj (by rw [wb_tb, wb_tb]; apply BitVec.eq_of_toNat_eq; rw [BitVec.toNat_ofNat, BitVec.toNat_ofNat, Nat.mod_mod])
theorem wb_shr {n k : Nat} (hn : n < 2 ^ 64) (hk : k < 64) : ((lN n).toUInt64 >>> ((nI k).toInt64.toUInt64 &&& Int64.toUInt64 63)).toInt64 = lN (n / 2 ^ k) := by
  rw [wb_cu k hk]
  apply wb_inj
  apply BitVec.eq_of_toNat_eq
  show ((lN n).toUInt64 >>> UInt64.ofNat k).toNat = (BitVec.ofNat 64 _).toNat
  have h1 : (UInt64.ofNat k).toNat = k := by
    show (BitVec.ofNat 64 k).toNat = k
    rw [BitVec.toNat_ofNat, Nat.mod_eq_of_lt (by omega)]
  have h2 : (lN n).toUInt64.toNat = n := wb_tn hn
  rw [UInt64.toNat_shiftRight, h1, h2, Nat.mod_eq_of_lt hk, Nat.shiftRight_eq_div_pow, BitVec.toNat_ofNat, Nat.mod_eq_of_lt (Nat.lt_of_le_of_lt (Nat.div_le_self _ _) hn)]
theorem wb_shl (n : Nat) {k : Nat} (hk : k < 64) : lN n <<< ((nI k).toInt64 &&& 63) = lN (n * 2 ^ k) := by
  rw [wb_c k hk]
  apply wb_inj
  rw [Int64.toBitVec_shiftLeft, wb_tb, wb_tb, wb_tb, wb_sm k hk]
  apply BitVec.eq_of_toNat_eq
  rw [BitVec.shiftLeft_eq', BitVec.toNat_shiftLeft, BitVec.toNat_ofNat, BitVec.toNat_ofNat, BitVec.toNat_ofNat, Nat.mod_eq_of_lt (show k < 2 ^ 64 by omega), Nat.shiftLeft_eq, Nat.mul_mod, Nat.mod_mod, ← Nat.mul_mod]
theorem wb_and {a b : Nat} (ha : a < 2 ^ 64) (hb : b < 2 ^ 64) : lN a &&& lN b = lN (a &&& b) := by
  apply wb_inj
  rw [Int64.toBitVec_and, wb_tb, wb_tb, wb_tb]
  apply BitVec.eq_of_toNat_eq
  rw [BitVec.toNat_and, BitVec.toNat_ofNat, BitVec.toNat_ofNat, BitVec.toNat_ofNat, Nat.mod_eq_of_lt ha, Nat.mod_eq_of_lt hb, Nat.mod_eq_of_lt (Nat.and_lt_two_pow _ hb)]
theorem wb_or {a b : Nat} (ha : a < 2 ^ 64) (hb : b < 2 ^ 64) : lN a ||| lN b = lN (a ||| b) := by
  apply wb_inj
  rw [Int64.toBitVec_or, wb_tb, wb_tb, wb_tb]
  apply BitVec.eq_of_toNat_eq
  rw [BitVec.toNat_or, BitVec.toNat_ofNat, BitVec.toNat_ofNat, BitVec.toNat_ofNat, Nat.mod_eq_of_lt ha, Nat.mod_eq_of_lt hb, Nat.mod_eq_of_lt (Nat.or_lt_two_pow ha hb)]
theorem wb_mask {n k : Nat} (hn : n < 2 ^ 64) (hk : k < 64) : lN n &&& lN (2 ^ k - 1) = lN (n % 2 ^ k) := by
  rw [wb_and hn (by have := wb_lt2 hk; omega), Nat.and_two_pow_sub_one_eq_mod]
theorem wb_a1 {n : Nat} (hn : n < 2 ^ 64) : lN n &&& 1 = lN (n % 2) := wb_mask (k := 1) hn (by decide)
theorem wb_bit {n k : Nat} (hn : n < 2 ^ 64) (hk : k < 64) : ((lN n).toUInt64 >>> ((nI k).toInt64.toUInt64 &&& Int64.toUInt64 63)).toInt64 &&& 1 = lN (n / 2 ^ k % 2) := by
  rw [wb_shr hn hk, wb_a1 (Nat.lt_of_le_of_lt (Nat.div_le_self _ _) hn)]
/-! varints written -/
def b8 (n : Nat) : Int32 := (nI n).toInt8.toInt32
def vnF : Nat → Nat → List Int32
  | 0, z => [b8 z]
  | f + 1, z => if z < 128 then [b8 z] else b8 (z % 128 + 128) :: vnF f (z / 128)
def vn (z : Nat) : List Int32 := vnF 9 z
theorem vnF_By : ∀ f z, Bys (vnF f z)
  | 0, z => fun p hp => by
    simp only [vnF, List.mem_singleton] at hp
    subst hp; exact By_8 _
  | f + 1, z => fun p hp => by
    simp only [vnF] at hp
    split at hp
    · simp only [List.mem_singleton] at hp
      subst hp; exact By_8 _
    · simp only [List.mem_cons] at hp
      rcases hp with rfl | hp
      · exact By_8 _
      · exact vnF_By f _ p hp
theorem vnF_len : ∀ f z, 1 ≤ (vnF f z).length ∧ (vnF f z).length ≤ f + 1
  | 0, z => by simp [vnF]
  | f + 1, z => by
    simp only [vnF]
    split
    · simp
    · have := vnF_len f (z / 128)
      simp only [List.length_cons]; omega
theorem vnF_1 (f : Nat) {z : Nat} (h : z < 128) : vnF f z = [b8 z] := by
  cases f with
  | zero => rfl
  | succ f => simp [vnF, h]
/-- z is the turned number of v -/
def zk (v : Int64) (z : Nat) : Prop := (v = -1 ∧ z = 1) ∨ (z % 2 = 0 ∧ z < 2 ^ 30 ∧ v = lN (z / 2))
theorem zk_lt {v : Int64} {z : Nat} (h : zk v z) : z < 2 ^ 30 := by
  rcases h with ⟨-, h⟩ | ⟨-, h, -⟩
  · omega
  · exact h
theorem zk_turned {v : Int64} {z : Nat} (h : zk v z) : (v <<< ((1 : Int32).toInt64 &&& 63)) ^^^ (v >>> ((63 : Int32).toInt64 &&& 63)) = lN z := by
  rcases h with ⟨rfl, rfl⟩ | ⟨h2, hz, rfl⟩
  · decide
  · have e1 := wb_shl (z / 2) (k := 1) (by decide)
    rw [show (1 : Int32) = nI 1 from rfl, e1, show z / 2 * 2 ^ 1 = z from by omega]
    have e2 : lN (z / 2) >>> ((63 : Int32).toInt64 &&& 63) = 0 := by
      rw [← Int64.toBitVec_inj, Int64.toBitVec_shiftRight, show (((63 : Int32).toInt64 &&& 63).toBitVec.smod 64) = 63#64 from by decide]
      show (lN (z / 2)).toBitVec.sshiftRight (63#64).toNat = 0#64
      have hm : (lN (z / 2)).toBitVec.msb = false := by
        rw [BitVec.msb_eq_decide, wb_tn (by omega)]; simp; omega
      rw [BitVec.sshiftRight_eq_of_msb_false hm]
      apply BitVec.eq_of_toNat_eq
      rw [BitVec.toNat_ushiftRight, wb_tn (by omega), Nat.shiftRight_eq_div_pow]
      show z / 2 / 2 ^ 63 = 0
      omega
    rw [e2, Int64.xor_zero]
theorem zk_m {v : Int64} {z : Nat} (h : zk v z) : (0 ≤ v → 2 * v = lN z) ∧ (¬ 0 ≤ v → (-2) * v - 1 = lN z) := by
  rcases h with ⟨rfl, rfl⟩ | ⟨h2, hz, rfl⟩
  · exact ⟨fun c => absurd c (by decide), fun _ => by decide⟩
  · refine ⟨fun _ => ?_, fun c => absurd ?_ c⟩
    · rw [show (2 : Int64) = lN 2 from rfl, lN_mul]
      congr 1; omega
    · rw [show (0 : Int64) = lN 0 from rfl, pk_lLE (by omega) (by omega)]; omega
theorem ush7 {y : Nat} (h : y < 2 ^ 64) : ((lN y).toUInt64 >>> ((7 : Int32).toInt64.toUInt64 &&& Int64.toUInt64 63)).toInt64 = lN (y / 128) := wb_shr (k := 7) h (by decide)
theorem w_varintBytes {Y : Ly} {v : Int64} {z : Nat} {M : Mm} {Kn : Int32 → Mm → Prop} (hz : zk v z) (h : Kn (nI (vn z).length) M) : f_X1_varintBytes Y v M Kn := by
  have hzl := zk_lt hz
  unfold f_X1_varintBytes f_X1_turned
  rw [zk_turned hz]
  intro x3 e3
  rw [ush7 (by omega)] at e3
  subst e3
  refine LOOP3_inv (fun x4 x5 x6 => ∃ k y : Nat, k ≤ 9 ∧ x4 = lN (y / 128) ∧ x5 = nI (k + 1) ∧ x6 = nI k ∧ y < 2 ^ 30 ∧ (k = 9 → y < 128) ∧ (vn z).length = k + (vnF (9 - k) y).length ∧ y * 128 ^ k ≤ z) (fun _ _ x6 => 9 - x6.toNatClampNeg) ?_ _ _ _ ⟨0, z, by omega, rfl, rfl, rfl, hzl, by omega, by simp [vn], by omega⟩
  rintro x4 x5 x6 again ⟨k, y, hk, rfl, rfl, rfl, hy, hy9, hl, hm⟩ hag
  unfold L_X1_varintBytes_14 f_X1_varintBytes_41
  rw [show (9 : Int32) = nI 9 from rfl, nI_cmp (by omega) (by omega)]
  refine ⟨fun c => ?_, fun c => ⟨fun c2 => ?_, fun c2 x9 e9 x10 e10 x11 e11 => ?_⟩⟩
  · rw [vnF_1 _ (hy9 (by omega))] at hl
    rw [show k + 1 = (vn z).length from by rw [hl]; rfl]
    exact h
  · have : y / 128 = 0 := (pk_lEQ (by omega) (by omega)).mp (show lN (y / 128) = lN 0 from c2)
    rw [vnF_1 _ (by omega)] at hl
    rw [show k + 1 = (vn z).length from by rw [hl]; rfl]
    exact h
  · rw [ush7 (by omega)] at e9
    rw [nI_1] at e10 e11
    subst e9 e10 e11
    have hne : ¬ y < 128 := fun g => c2 (by rw [show y / 128 = 0 from by omega]; rfl)
    have hm2 : y / 128 * 128 ^ (k + 1) ≤ z := by
      rw [Nat.pow_succ]
      calc y / 128 * (128 ^ k * 128) = (y / 128 * 128) * 128 ^ k := by rw [Nat.mul_comm (128 ^ k) 128, ← Nat.mul_assoc]
        _ ≤ y * 128 ^ k := Nat.mul_le_mul_right _ (by omega)
        _ ≤ z := hm
    refine hag _ _ _ ⟨k + 1, y / 128, by omega, rfl, rfl, rfl, by omega, ?_, ?_, hm2⟩ ?_
    · intro h9
      have : y / 128 * 128 ^ 9 ≤ z := by rw [← h9]; exact hm2
      apply Classical.byContradiction
      intro hc
      have h2 : 128 * 128 ^ 9 ≤ y / 128 * 128 ^ 9 := Nat.mul_le_mul_right _ (by omega)
      have h3 : (2 : Nat) ^ 30 ≤ 128 * 128 ^ 9 := by decide
      omega
    · rw [hl, show 9 - k = (9 - (k + 1)) + 1 from by omega]
      simp only [vnF, if_neg hne, List.length_cons]; omega
    · rw [nI_clamp (by omega), nI_clamp (by omega)]; omega
theorem or128 : ∀ a : Fin 128, ((lN a.val) ||| 128) = lN (a.val + 128) := by decide +kernel
theorem w_putVarint {Y : Ly} {row a : Nat} {v : Int64} {z : Nat} {M : Mm} {Kn : Int32 → Mm → Prop} (hz : zk v z) (hk : yK Y row = 100) (hn : a + (vn z).length ≤ yN Y row) (hb : yN Y row < 2 ^ 31) (h : Kn (nI (a + (vn z).length)) (sI M row (wr (mI M row) a (vn z)))) : f_X1_putVarint Y row (nI a) v M Kn := by
  have hzl := zk_lt hz
  unfold f_X1_putVarint f_X1_turned
  rw [zk_turned hz]
  refine w_varintBytes hz ?_
  have hvl := vnF_len 9 z
  refine LOOP3_inv (fun x5 x6 M7 => ∃ (k y : Nat) (p : List Int32), x5 = lN y ∧ x6 = nI k ∧ p.length = k ∧ y < 2 ^ 30 ∧ M7 = sI M row (wr (mI M row) a p) ∧ ((k < (vn z).length ∧ k ≤ 9 ∧ vn z = p ++ vnF (9 - k) y) ∨ (k = (vn z).length ∧ vn z = p)) ∧ y * 128 ^ k ≤ z) (fun _ x6 _ => (vn z).length - x6.toNatClampNeg) ?_ _ _ _ ⟨0, z, [], rfl, rfl, rfl, hzl, (sI_same M row).symm, Or.inl ⟨by unfold vn; omega, by omega, rfl⟩, by omega⟩
  rintro x5 x6 M7 again ⟨k, y, p, rfl, rfl, hp, hy, rfl, hW, hm⟩ hag
  unfold L_X1_putVarint_15
  have hvn : (vn z).length ≤ 10 := hvl.2
  have hk2 : k ≤ (vn z).length := by rcases hW with ⟨w, -⟩ | ⟨w, -⟩ <;> omega
  rw [nI_cmp (by omega) (by omega)]
  refine ⟨fun c => ?_, fun c => ?_⟩
  · rcases hW with ⟨w, -⟩ | ⟨-, w⟩
    · omega
    · rw [nI_add, ← w]; exact h
  rcases hW with ⟨w1, w3, w2⟩ | ⟨w, -⟩
  rotate_left
  · omega
  have hlen : (vn z).length = k + (vnF (9 - k) y).length := by rw [w2, List.length_append, hp]
  have w51 : ∀ (x : Nat) (y9 : Int64) (rs : List Int32), y9.toInt32 = nI x → vnF (9 - k) y = b8 x :: rs → ((rs = [] ∧ k + 1 = (vn z).length) ∨ (k + 1 < (vn z).length ∧ k + 1 ≤ 9 ∧ rs = vnF (9 - (k + 1)) (y / 128))) → f_X1_putVarint_51 Y row (nI a) (lN y) (nI k) (sI M row (wr (mI M row) a p)) again y9 := by
    intro x y9 rs hx hv hrs
    unfold f_X1_putVarint_51
    refine ⟨hk, ?_, fun M12 e12 x13 e13 x14 e14 => ?_⟩
    · rw [nI_add]; exact vp_in_nI (by omega) hb
    · rw [nI_add, nI_clamp (by omega), mI_sI_self, sI_sI, hx, Int8.toInt8_toInt32] at e12
      rw [ush7 (by omega)] at e13
      rw [nI_1] at e14
      subst e12 e13 e14
      have hm2 : y / 128 * 128 ^ (k + 1) ≤ z := by
        rw [Nat.pow_succ]
        calc y / 128 * (128 ^ k * 128) = (y / 128 * 128) * 128 ^ k := by rw [Nat.mul_comm (128 ^ k) 128, ← Nat.mul_assoc]
          _ ≤ y * 128 ^ k := Nat.mul_le_mul_right _ (by omega)
          _ ≤ z := hm
      refine hag _ _ _ ⟨k + 1, y / 128, p ++ [b8 x], rfl, rfl, by simp [hp], by omega, ?_, ?_, hm2⟩ ?_
      · rw [wr_app, hp]; rfl
      · rcases hrs with ⟨r1, r2⟩ | ⟨r1, r3, r2⟩
        · right
          refine ⟨r2, ?_⟩
          rw [w2, hv, r1]
        · left
          refine ⟨r1, r3, ?_⟩
          rw [w2, hv, r2]; simp
      · rw [nI_clamp (by omega), nI_clamp (by omega)]; omega
  rw [show nI (vn z).length - 1 = nI ((vn z).length - 1) from by rw [show (1 : Int32) = nI 1 from rfl, pk_sub (by omega)], nI_cmp (by omega) (by omega)]
  by_cases hy128 : y < 128
  · have hv := vnF_1 (9 - k) hy128
    have hl1 : (vn z).length = k + 1 := by rw [hlen, hv]; rfl
    refine ⟨fun c2 => w51 y (lN y) [] (lN_i y) hv (Or.inl ⟨rfl, by omega⟩), fun c2 => ?_⟩
    omega
  · have hk9 : k < 9 := by
      apply Classical.byContradiction
      intro hc
      have h9 : k = 9 := by omega
      rw [h9] at hm
      have h2 : 128 * 128 ^ 9 ≤ y * 128 ^ 9 := Nat.mul_le_mul_right _ (by omega)
      have h3 : (2 : Nat) ^ 30 ≤ 128 * 128 ^ 9 := by decide
      omega
    have hv : vnF (9 - k) y = b8 (y % 128 + 128) :: vnF (9 - (k + 1)) (y / 128) := by
      rw [show 9 - k = (9 - (k + 1)) + 1 from by omega]
      simp only [vnF, if_neg hy128]
    have hl2 : (vn z).length = k + 1 + (vnF (9 - (k + 1)) (y / 128)).length := by rw [hlen, hv, List.length_cons]; omega
    have hl3 := vnF_len (9 - (k + 1)) (y / 128)
    refine ⟨fun c2 => by omega, fun c2 => w51 (y % 128 + 128) _ _ ?_ hv (Or.inr ⟨by omega, by omega, rfl⟩)⟩
    have e1 : lN y &&& 127 = lN (y % 128) := wb_mask (k := 7) (by omega) (by decide)
    rw [e1, or128 ⟨y % 128, by omega⟩, lN_i]
