/-! the model's draft -/
theorem ln_pos {x : Int32} (h : lenOK x) : (x ≤ 0 → lnN x = 0) ∧ (¬ x ≤ 0 → x = nI (lnN x)) := by
  rcases h with rfl | ⟨n, hn, rfl⟩
  · exact ⟨fun _ => rfl, fun c => absurd (by decide) c⟩
  · rw [(ln_nI hn).2.2, show (0 : Int32) = nI 0 from rfl, nI_cmp (by omega) (by omega)]
    exact ⟨fun c => by omega, fun _ => rfl⟩
theorem w_body {Y : Ly} {v b14 b16 b17 k : Nat} {M : Mm} {Kn : Int32 → Mm → Prop} (hkv : yK Y v = 12) (hr14 : mR M v 14 = some b14) (hr16 : mR M v 16 = some b16) (hr17 : mR M v 17 = some b17) (hk14 : yK Y b14 = 101) (hk16 : yK Y b16 = 101) (hk17 : yK Y b17 = 101) (hn14 : yN Y b14 = 1000) (hn16 : yN Y b16 = 1000) (hn17 : yN Y b17 = 1000) (hk : k < 1000) (hl : lenOK (mI M b17 k)) (hkb : lenOK (mI M b14 k)) (hvb : lenOK (mI M b16 k))
    (h : Kn (nI (bdN (mI M b17 k) (nI k) (mI M b14 k) (mI M b16 k))) M) : f_X12_body Y v (nI k) M Kn := by
  have hin : vp_in (nI k) 1000 := vp_in_nI hk (by decide)
  have hic := ln_nI (n := k) (by omega)
  unfold f_X12_body
  rw [nI_clamp (by omega)]
  refine ⟨hkv, b17, hr17, hk17, by rw [hn17]; exact hin, w_width (ln_zk hl) (w_width (ln_zk hic.1) ⟨b14, hr14, hk14, by rw [hn14]; exact hin, w_width (ln_zk hkb) ⟨b16, hr16, hk16, by rw [hn16]; exact hin, w_width (ln_zk hvb) ?_⟩⟩)⟩
  intro x19 e19
  rw [show (2 : Int32) = nI 2 from rfl, nI_add, nI_add, nI_add, nI_add] at e19
  subst e19
  have t83 : ∀ (y23 y28 : Int32), y23 = nI (lnN (mI M b14 k)) → y28 = nI (lnN (mI M b16 k)) → Kn (nI (2 + (vn (lnZ (mI M b17 k))).length + (vn (lnZ (nI k))).length + (vn (lnZ (mI M b14 k))).length + (vn (lnZ (mI M b16 k))).length) + y23 + y28) M := by
    intro y23 y28 h23 h28
    rw [h23, h28, nI_add, nI_add]
    exact h
  have t61 : ∀ (y23 : Int32), y23 = nI (lnN (mI M b14 k)) → f_X12_body_61 Y v (nI k) Kn M (nI (2 + (vn (lnZ (mI M b17 k))).length + (vn (lnZ (nI k))).length + (vn (lnZ (mI M b14 k))).length + (vn (lnZ (mI M b16 k))).length)) y23 := by
    intro y23 h23
    unfold f_X12_body_61 f_X12_body_83
    intro x24 e24
    subst e24
    rw [nI_clamp (by omega)]
    refine ⟨b16, hr16, hk16, by rw [hn16]; exact hin, fun c => t83 _ _ h23 (by rw [(ln_pos hvb).1 c]; rfl), fun c => ⟨b16, hr16, hk16, by rw [hn16]; exact hin, t83 _ _ h23 ((ln_pos hvb).2 c)⟩⟩
  refine ⟨b14, hr14, hk14, by rw [hn14]; exact hin, fun c => t61 _ (by rw [(ln_pos hkb).1 c]; rfl), fun c => ⟨b14, hr14, hk14, by rw [hn14]; exact hin, t61 _ ((ln_pos hkb).2 c)⟩⟩
/-- the bytes of the k-th record; of the first n records -/
def rbD (K : Nat → Int64) (KB : Nat → Int32) (V : Nat → Int64) (VB L : Nat → Int32) (k : Nat) : List Int32 := rb (nI k) (K k) (KB k) (V k) (VB k) (L k)
def dB (K : Nat → Int64) (KB : Nat → Int32) (V : Nat → Int64) (VB L : Nat → Int32) : Nat → List Int32
  | 0 => []
  | n + 1 => dB K KB V VB L n ++ rbD K KB V VB L n
def drOK (KB VB L : Nat → Int32) (n : Nat) : Prop := ∀ k, k < n → lenOK (L k) ∧ lenOK (KB k) ∧ lenOK (VB k) ∧ bdN (L k) (nI k) (KB k) (VB k) < 1000
theorem w_weight {Y : Ly} {v b14 b16 b17 n : Nat} {K V : Nat → Int64} {M : Mm} {Kn : Int32 → Mm → Prop} (hkv : yK Y v = 12) (hr14 : mR M v 14 = some b14) (hr16 : mR M v 16 = some b16) (hr17 : mR M v 17 = some b17) (hk14 : yK Y b14 = 101) (hk16 : yK Y b16 = 101) (hk17 : yK Y b17 = 101) (hn14 : yN Y b14 = 1000) (hn16 : yN Y b16 = 1000) (hn17 : yN Y b17 = 1000) (h12 : mI M v 12 = nI n) (hn : n ≤ 1000) (hok : drOK (mI M b14) (mI M b16) (mI M b17) n)
    (h : Kn (nI (dB K (mI M b14) V (mI M b16) (mI M b17) n).length) M) : f_X12_weight Y v M Kn := by
  unfold f_X12_weight
  refine LOOP3_inv (fun x1 x2 M3 => ∃ k : Nat, k ≤ n ∧ x2 = nI k ∧ M3 = M ∧ x1 = nI (dB K (mI M b14) V (mI M b16) (mI M b17) k).length) (fun _ x2 _ => n - x2.toNatClampNeg) ?_ _ _ _ ⟨0, by omega, rfl, rfl, rfl⟩
  rintro x1 x2 M3 again ⟨k, hk, rfl, rfl, rfl⟩ hag
  unfold L_X12_weight_4
  rw [h12, nI_cmp (by omega) (by omega)]
  refine ⟨hkv, fun c => ?_, fun c => ?_⟩
  · rw [show k = n from by omega]; exact h
  · obtain ⟨o1, o2, o3, o4⟩ := hok k (by omega)
    have hbn := ln_nI (n := bdN (mI M3 b17 k) (nI k) (mI M3 b14 k) (mI M3 b16 k)) (by omega)
    refine w_body hkv hr14 hr16 hr17 hk14 hk16 hk17 hn14 hn16 hn17 (by omega) o1 o2 o3 (w_width (ln_zk hbn.1) (w_body hkv hr14 hr16 hr17 hk14 hk16 hk17 hn14 hn16 hn17 (by omega) o1 o2 o3 ?_))
    intro x12 e12 x13 e13
    rw [hbn.2.1, nI_add, nI_add] at e12
    rw [nI_1] at e13
    subst e12 e13
    refine hag _ _ _ ⟨k + 1, by omega, rfl, rfl, ?_⟩ ?_
    · simp only [dB, List.length_append, rbD, rb_len]
    · rw [nI_clamp (by omega), nI_clamp (by omega)]; omega
theorem pb_shr (v : Int64) (s : Nat) : pb (v >>> ((8 * nI s).toInt64 &&& 63)) 1 = [pb1 v s] := by
  simp only [pb, pb1]
  have : ∀ x : Int64, x >>> ((8 * nI 0).toInt64 &&& 63) = x := by
    intro x
    rw [← Int64.toBitVec_inj, Int64.toBitVec_shiftRight, show (((8 * nI 0).toInt64 &&& 63).toBitVec.smod 64) = 0#64 from by decide]
    show x.toBitVec.sshiftRight (0#64).toNat = _
    simp
  rw [this]
theorem pb_0 : ∀ n, n ≤ 8 → pb 0 n = List.replicate n 0 := by decide +kernel
theorem w_putRecord {Y : Ly} {v t b13 b14 b15 b16 b17 k m : Nat} {M : Mm} {Kn : Mm → Prop} (hkv : yK Y v = 12) (hR : mR M v 10 = some t) (hkt : yK Y t = 101) (hne : t ≠ v) (hr13 : mR M v 13 = some b13) (hr14 : mR M v 14 = some b14) (hr15 : mR M v 15 = some b15) (hr16 : mR M v 16 = some b16) (hr17 : mR M v 17 = some b17) (hk13 : yK Y b13 = 102) (hk14 : yK Y b14 = 101) (hk15 : yK Y b15 = 102) (hk16 : yK Y b16 = 101) (hk17 : yK Y b17 = 101) (hn13 : yN Y b13 = 1000) (hn14 : yN Y b14 = 1000) (hn15 : yN Y b15 = 1000) (hn16 : yN Y b16 = 1000) (hn17 : yN Y b17 = 1000)
    (n14 : b14 ≠ v ∧ b14 ≠ t) (n16 : b16 ≠ v ∧ b16 ≠ t) (n17 : b17 ≠ v ∧ b17 ≠ t) (h11 : mI M v 11 = nI m) (hk : k < 1000) (hl : lenOK (mI M b17 k)) (hkb : lenOK (mI M b14 k)) (hkb8 : lnN (mI M b14 k) ≤ 8) (hvb : lenOK (mI M b16 k)) (hbd : bdN (mI M b17 k) (nI k) (mI M b14 k) (mI M b16 k) < 1000)
    (hn : m + (rbD (mJ M b13) (mI M b14) (mJ M b15) (mI M b16) (mI M b17) k).length ≤ yN Y t) (hb : yN Y t < 2 ^ 31) (h : Kn (mq M v t (rbD (mJ M b13) (mI M b14) (mJ M b15) (mI M b16) (mI M b17) k) m)) : f_X12_putRecord Y v (nI k) M Kn := by
  have hin : vp_in (nI k) 1000 := vp_in_nI hk (by decide)
  have hic := ln_nI (n := k) (by omega)
  obtain ⟨bd, hbdE⟩ : ∃ bd, bd = bdN (mI M b17 k) (nI k) (mI M b14 k) (mI M b16 k) := ⟨_, rfl⟩
  have hbn := ln_nI (n := bd) (by omega)
  obtain ⟨L, hL⟩ : ∃ L, L = rbD (mJ M b13) (mI M b14) (mJ M b15) (mI M b16) (mI M b17) k := ⟨_, rfl⟩
  have hLe : L = vn (2 * bd) ++ [0] ++ vn (lnZ (mI M b17 k)) ++ vn (lnZ (nI k)) ++ vn (lnZ (mI M b14 k)) ++ pb (mJ M b13 k) (lnN (mI M b14 k)) ++ vn (lnZ (mI M b16 k)) ++ vbs (mJ M b15 k) (lnN (mI M b16 k)) ++ [0] := by
    rw [hL, hbdE]; unfold rbD rb rbody; simp only [List.append_assoc]
  have hLl := congrArg List.length hLe
  simp only [List.length_append, List.length_cons, List.length_nil, pb_len, vbs_len] at hLl
  rw [← hL] at hn h
  have i14 : ∀ xs n, mI (mq M v t xs n) b14 = mI M b14 := fun xs n => mq_n _ _ _ n14.1 n14.2
  have i16 : ∀ xs n, mI (mq M v t xs n) b16 = mI M b16 := fun xs n => mq_n _ _ _ n16.1 n16.2
  have i17 : ∀ xs n, mI (mq M v t xs n) b17 = mI M b17 := fun xs n => mq_n _ _ _ n17.1 n17.2
  have i11 : ∀ xs n, mI (mq M v t xs n) v 11 = nI (n + xs.length) := fun xs n => by rw [mq_v]; simp [m1]
  unfold f_X12_putRecord
  refine ⟨hkv, w_body hkv hr14 hr16 hr17 hk14 hk16 hk17 hn14 hn16 hn17 hk hl hkb hvb ?_⟩
  rw [← hbdE]
  refine w_varint (ln_zk hbn.1) hkv hR hkt hne h11 (by rw [hbn.2.1]; omega) hb ?_
  rw [hbn.2.1]
  refine w_mput (n := 1) hkv (by rw [mq_R]; exact hR) hkt hne (i11 _ _) (by omega) hb (by omega) ?_
  rw [mq_mq _ _ _ _ hne, show pb 0 1 = [0] from rfl]
  simp only [mq_R, i17, i14, i16]
  refine ⟨b17, hr17, hk17, by rw [hn17]; exact hin, ?_⟩
  rw [nI_clamp (by omega), i17]
  refine w_varint (ln_zk hl) hkv (by rw [mq_R]; exact hR) hkt hne (i11 _ _) (by simp only [List.length_append, List.length_cons, List.length_nil]; omega) hb ?_
  rw [mq_mq _ _ _ _ hne]
  refine w_varint (ln_zk hic.1) hkv (by rw [mq_R]; exact hR) hkt hne (i11 _ _) (by simp only [List.length_append, List.length_cons, List.length_nil]; omega) hb ?_
  rw [mq_mq _ _ _ _ hne]
  simp only [mq_R, i17, i14, i16]
  refine ⟨b14, hr14, hk14, by rw [hn14]; exact hin, ?_⟩
  rw [i14]
  refine w_varint (ln_zk hkb) hkv (by rw [mq_R]; exact hR) hkt hne (i11 _ _) (by simp only [List.length_append, List.length_cons, List.length_nil]; omega) hb ?_
  rw [mq_mq _ _ _ _ hne]
  simp only [mq_R, i17, i14, i16, mq_J]
  refine ⟨b14, hr14, hk14, by rw [hn14]; exact hin, ?_⟩
  rw [i14]
  have t69 : f_X12_putRecord_69 Y v (nI k) Kn (mq M v t (vn (2 * bd) ++ [0] ++ vn (lnZ (mI M b17 k)) ++ vn (lnZ (nI k)) ++ vn (lnZ (mI M b14 k)) ++ pb (mJ M b13 k) (lnN (mI M b14 k))) m) := by
    unfold f_X12_putRecord_69
    refine ⟨b16, by rw [mq_R]; exact hr16, hk16, by rw [hn16]; exact hin, ?_⟩
    rw [nI_clamp (by omega), i16]
    refine w_varint (ln_zk hvb) hkv (by rw [mq_R]; exact hR) hkt hne (i11 _ _) (by simp only [List.length_append, List.length_cons, List.length_nil, pb_len]; omega) hb ?_
    rw [mq_mq _ _ _ _ hne]
    obtain ⟨PP, hPP⟩ : ∃ PP, PP = vn (2 * bd) ++ [0] ++ vn (lnZ (mI M b17 k)) ++ vn (lnZ (nI k)) ++ vn (lnZ (mI M b14 k)) ++ pb (mJ M b13 k) (lnN (mI M b14 k)) ++ vn (lnZ (mI M b16 k)) := ⟨_, rfl⟩
    have hPPl := congrArg List.length hPP
    simp only [List.length_append, List.length_cons, List.length_nil, pb_len] at hPPl
    rw [← hPP] at hLe ⊢
    have hvl := ln_lt hvb
    refine LOOP2_inv (fun x23 M24 => ∃ j : Nat, j ≤ lnN (mI M b16 k) ∧ x23 = nI j ∧ M24 = mq M v t (PP ++ vbs (mJ M b15 k) j) m) (fun x23 _ => lnN (mI M b16 k) - x23.toNatClampNeg) ?_ 0 _ ⟨0, by omega, rfl, by simp [vbs]⟩
    rintro x23 M24 again ⟨j, hj, rfl, rfl⟩ hag
    unfold L_X12_putRecord_82
    have cmp : mI M b16 k ≤ nI j ↔ lnN (mI M b16 k) ≤ j := by
      rcases hvb with hv | ⟨n, hn', hv⟩
      · rw [hv]
        constructor
        · intro _; exact Nat.zero_le _
        · intro _
          have h0 := nI_pos' (n := j) (by omega)
          exact Int32.le_trans (by decide) h0
      · rw [hv] at hj ⊢
        rw [(ln_nI hn').2.2] at hj ⊢
        rw [nI_cmp (by omega) (by omega)]
    refine ⟨b16, by rw [mq_R]; exact hr16, hk16, by rw [hn16]; exact hin, ?_⟩
    rw [nI_clamp (by omega), i16, cmp]
    refine ⟨fun c => ?_, fun c => ⟨b15, by rw [mq_R]; exact hr15, hk15, by rw [hn15]; exact hin, ?_⟩⟩
    · rw [show j = lnN (mI M b16 k) from by omega]
      refine w_mput (n := 1) hkv (by rw [mq_R]; exact hR) hkt hne (i11 _ _) (by rw [List.length_append, vbs_len]; omega) hb (by omega) ?_
      rw [mq_mq _ _ _ _ hne, show pb 0 1 = [0] from rfl, ← hLe]
      exact h
    · rw [show nI j - nI j / 8 * 8 = nI (j % 8) from pk_rem (a := j) (d := 8) (by omega) (by decide) (by decide)]
      refine w_mput (n := 1) hkv (by rw [mq_R]; exact hR) hkt hne (i11 _ _) (by rw [List.length_append, vbs_len]; omega) hb (by omega) ?_
      intro x35 e35
      rw [nI_1] at e35
      subst e35
      rw [mq_mq _ _ _ _ hne, pb_shr, mq_J, List.append_assoc, ← vbs_s]
      refine hag _ _ ⟨j + 1, by omega, rfl, rfl⟩ ?_
      rw [nI_clamp (by omega), nI_clamp (by omega)]; omega
  refine ⟨fun c => ?_, fun c => ⟨b13, hr13, hk13, by rw [hn13]; exact hin, b14, hr14, hk14, by rw [hn14]; exact hin, ?_⟩⟩
  · have : pb (mJ M b13 k) (lnN (mI M b14 k)) = [] := by rw [(ln_pos hkb).1 c]; rfl
    rw [this, List.append_nil] at t69
    exact t69
  · rw [i14]
    have key := w_mput (Y := Y) (v := v) (t := t) (n := lnN (mI M b14 k)) (x := mJ M b13 k) (M := mq M v t (vn (2 * bd) ++ [0] ++ vn (lnZ (mI M b17 k)) ++ vn (lnZ (nI k)) ++ vn (lnZ (mI M b14 k))) m) (Kn := fun M43 => f_X12_putRecord_69 Y v (nI k) Kn M43) hkv (by rw [mq_R]; exact hR) hkt hne (i11 _ _) (by simp only [List.length_append, List.length_cons, List.length_nil]; omega) hb hkb8 (by rw [mq_mq _ _ _ _ hne]; exact t69)
    rw [← (ln_pos hkb).2 c] at key
    exact key
