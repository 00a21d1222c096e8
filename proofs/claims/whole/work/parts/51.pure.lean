theorem w_width {Y : Ly} {v : Int64} {z : Nat} {M : Mm} {Kn : Int32 → Mm → Prop} (hz : zk v z) (h : Kn (nI (vn z).length) M) : f_X12_width Y v M Kn := by
  have hzl := zk_lt hz
  have g : f_X12_width_21 Y M Kn (lN z) := by
    unfold f_X12_width_21
    refine LOOP2_inv (fun x2 x3 => ∃ k y : Nat, k ≤ 9 ∧ x2 = lN y ∧ x3 = nI (k + 1) ∧ y < 2 ^ 30 ∧ (vn z).length = k + (vnF (9 - k) y).length ∧ y * 128 ^ k ≤ z) (fun _ x3 => 11 - x3.toNatClampNeg) ?_ _ _ ⟨0, z, by omega, rfl, rfl, hzl, by simp [vn], by omega⟩
    rintro x2 x3 again ⟨k, y, hk, rfl, rfl, hy, hl, hm⟩ hag
    unfold L_X12_width_25
    refine ⟨fun c => absurd c (by rw [show (0 : Int64) = lN 0 from rfl, pk_lLT (by omega) (by omega)]; omega), fun c => ?_⟩
    rw [show (127 : Int64) = lN 127 from rfl, pk_lLE (by omega) (by omega)]
    refine ⟨fun c2 => ?_, fun c2 => ?_⟩
    · rw [vnF_1 _ (by omega)] at hl
      rw [show k + 1 = (vn z).length from by rw [hl]; rfl]
      exact h
    · unfold f_X12_width_39
      intro x4 e4 x5 e5
      rw [ush7 (by omega)] at e4
      rw [nI_1] at e5
      subst e4 e5
      have hk9 : k < 9 := by
        apply Classical.byContradiction
        intro hc
        have h9 : k = 9 := by omega
        rw [h9] at hm
        have h2 : 128 * 128 ^ 9 ≤ y * 128 ^ 9 := Nat.mul_le_mul_right _ (by omega)
        have h3 : (2 : Nat) ^ 30 ≤ 128 * 128 ^ 9 := by decide
        omega
      have hm2 : y / 128 * 128 ^ (k + 1) ≤ z := by
        rw [Nat.pow_succ]
        calc y / 128 * (128 ^ k * 128) = (y / 128 * 128) * 128 ^ k := by rw [Nat.mul_comm (128 ^ k) 128, ← Nat.mul_assoc]
          _ ≤ y * 128 ^ k := Nat.mul_le_mul_right _ (by omega)
          _ ≤ z := hm
      refine hag _ _ ⟨k + 1, y / 128, by omega, rfl, rfl, by omega, ?_, hm2⟩ ?_
      · rw [hl, show 9 - k = (9 - (k + 1)) + 1 from by omega]
        simp only [vnF, if_neg (show ¬ y < 128 by omega), List.length_cons]; omega
      · rw [nI_clamp (by omega), nI_clamp (by omega)]; omega
  unfold f_X12_width
  refine ⟨fun c => ?_, fun c => ?_⟩
  · rw [(zk_m hz).1 c]; exact g
  · rw [(zk_m hz).2 c]; exact g
theorem pb_small {x : Nat} (h : x < 2 ^ 31) : pb (lN x) 1 = [b8 x] := by
  simp only [pb, pb1, b8]
  congr 1
  have : lN x >>> ((8 * nI 0).toInt64 &&& 63) = lN x := by
    rw [← Int64.toBitVec_inj, Int64.toBitVec_shiftRight, show (((8 * nI 0).toInt64 &&& 63).toBitVec.smod 64) = 0#64 from by decide]
    show (lN x).toBitVec.sshiftRight (0#64).toNat = _
    simp
  rw [this, lN_i]
theorem w_varint {Y : Ly} {v t m : Nat} {x : Int64} {z : Nat} {M : Mm} {Kn : Mm → Prop} (hz : zk x z) (hkv : yK Y v = 12) (hR : mR M v 10 = some t) (hkt : yK Y t = 101) (hne : t ≠ v) (h11 : mI M v 11 = nI m) (hn : m + (vn z).length ≤ yN Y t) (hb : yN Y t < 2 ^ 31) (h : Kn (mq M v t (vn z) m)) : f_X12_varint Y v x M Kn := by
  have hzl := zk_lt hz
  have hvl := vnF_len 9 z
  have hvn : (vn z).length ≤ 10 := hvl.2
  have g : f_X12_varint_21 Y v x M Kn (lN z) := by
    unfold f_X12_varint_21
    refine w_width hz ?_
    refine LOOP3_inv (fun x4 x5 M6 => ∃ (k y : Nat) (p : List Int32), x4 = lN y ∧ k ≤ (vn z).length ∧ x5 = nI ((vn z).length - k) ∧ p.length = k ∧ y < 2 ^ 30 ∧ M6 = mq M v t p m ∧ ((k < (vn z).length ∧ k ≤ 9 ∧ vn z = p ++ vnF (9 - k) y) ∨ (k = (vn z).length ∧ vn z = p)) ∧ y * 128 ^ k ≤ z) (fun _ x5 _ => x5.toNatClampNeg) ?_ _ _ _ ⟨0, z, [], rfl, by omega, rfl, rfl, hzl, (mq_nil h11).symm, Or.inl ⟨by unfold vn; omega, by omega, rfl⟩, by omega⟩
    rintro x4 x5 M6 again ⟨k, y, p, rfl, hkl, rfl, hp, hy, rfl, hW, hm⟩ hag
    unfold L_X12_varint_28
    rw [show (0 : Int32) = nI 0 from rfl, nI_cmp (by omega) (by omega), show (1 : Int32) = nI 1 from rfl, nI_cmp (by omega) (by omega)]
    refine ⟨fun c => ?_, fun c => ?_⟩
    · rcases hW with ⟨w, -⟩ | ⟨-, w⟩
      · omega
      · rw [← w]; exact h
    rcases hW with ⟨w1, w3, w2⟩ | ⟨w, -⟩
    rotate_left
    · omega
    have hlen : (vn z).length = k + (vnF (9 - k) y).length := by rw [w2, List.length_append, hp]
    have w52 : ∀ (xx : Nat) (y8 : Int64) (rs : List Int32), xx < 256 → (lN y &&& 127) + y8 = lN xx → vnF (9 - k) y = b8 xx :: rs → ((rs = [] ∧ k + 1 = (vn z).length) ∨ (k + 1 < (vn z).length ∧ k + 1 ≤ 9 ∧ rs = vnF (9 - (k + 1)) (y / 128))) → f_X12_varint_52 Y v (lN y) (nI ((vn z).length - k)) (mq M v t p m) again y8 := by
      intro xx y8 rs hxx hx hv hrs
      unfold f_X12_varint_52
      refine ⟨hkv, ?_⟩
      rw [hx]
      refine w_mput (m := m + k) (n := 1) hkv (by rw [mq_R]; exact hR) hkt hne (by rw [mq_v, hp]; simp [m1]) (by omega) hb (by omega) ?_
      intro x11 e11 x12 e12
      rw [ush7 (by omega)] at e11
      have hd : nI ((vn z).length - k) + (-1) = nI ((vn z).length - (k + 1)) := by
        rw [show (vn z).length - k = ((vn z).length - (k + 1)) + 1 from by omega]
        exact pk_m1 _
      rw [hd] at e12
      subst e11 e12
      have hm2 : y / 128 * 128 ^ (k + 1) ≤ z := by
        rw [Nat.pow_succ]
        calc y / 128 * (128 ^ k * 128) = (y / 128 * 128) * 128 ^ k := by rw [Nat.mul_comm (128 ^ k) 128, ← Nat.mul_assoc]
          _ ≤ y * 128 ^ k := Nat.mul_le_mul_right _ (by omega)
          _ ≤ z := hm
      refine hag _ _ _ ⟨k + 1, y / 128, p ++ [b8 xx], rfl, by omega, rfl, by simp [hp], by omega, ?_, ?_, hm2⟩ ?_
      · rw [pb_small (by omega)]
        have := mq_mq M p [b8 xx] m hne
        rw [hp] at this
        exact this
      · rcases hrs with ⟨r1, r2⟩ | ⟨r1, r3, r2⟩
        · right
          refine ⟨r2, ?_⟩
          rw [w2, hv, r1]
        · left
          refine ⟨r1, r3, ?_⟩
          rw [w2, hv, r2]; simp
      · rw [nI_clamp (by omega), nI_clamp (by omega)]; omega
    have e1 : lN y &&& 127 = lN (y % 128) := wb_mask (k := 7) (by omega) (by decide)
    by_cases hy128 : y < 128
    · have hv := vnF_1 (9 - k) hy128
      have hl1 : (vn z).length = k + 1 := by rw [hlen, hv]; rfl
      refine ⟨fun c2 => w52 y 0 [] (by omega) ?_ hv (Or.inl ⟨rfl, by omega⟩), fun c2 => ?_⟩
      · rw [e1, show (0 : Int64) = lN 0 from rfl, lN_add]
        congr 1; omega
      · omega
    · have hk9 : k < 9 := by
        apply Classical.byContradiction
        intro hc
        have h9 : k = 9 := by omega
        rw [h9] at hm
        have h2 : 128 * 128 ^ 9 ≤ y * 128 ^ 9 := Nat.mul_le_mul_right _ (by omega)
        have h3 : (2 : Nat) ^ 30 ≤ 128 * 128 ^ 9 := by decide
        omega
      have hv : vnF (9 - k) y = b8 (y % 128 + 128) :: vnF (9 - (k + 1)) (y / 128) := by
        rw [show 9 - k = (9 - (k + 1)) + 1 from by omega]
        simp only [vnF, if_neg hy128]
      have hl2 : (vn z).length = k + 1 + (vnF (9 - (k + 1)) (y / 128)).length := by rw [hlen, hv, List.length_cons]; omega
      have hl3 := vnF_len (9 - (k + 1)) (y / 128)
      refine ⟨fun c2 => by omega, fun c2 => w52 (y % 128 + 128) _ _ (by omega) ?_ hv (Or.inr ⟨by omega, by omega, rfl⟩)⟩
      rw [e1, show (128 : Int64) = lN 128 from rfl, lN_add]
  unfold f_X12_varint
  refine ⟨fun c => ?_, fun c => ?_⟩
  · rw [(zk_m hz).1 c]; exact g
  · rw [(zk_m hz).2 c]; exact g
