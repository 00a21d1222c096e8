/-! the model's small methods -/
def setB (f : Nat → Int32) (a n : Nat) (v : Int64) : Nat → (Nat → Int32)
  | 0 => f
  | k + 1 => m1 (setB f a n v k) (a + k) (((v >>> ((8 * ((nI n - 1) - nI k)).toInt64 &&& 63)).toInt32) &&& 255)
theorem s_set {Y : Ly} {row a n : Nat} {v : Int64} {M : Mm} {Kn : Mm → Prop} (hk : yK Y row = 101) (hn : a + n ≤ yN Y row) (hb : yN Y row < 2 ^ 31) (h : Kn (sI M row (setB (mI M row) a n v n))) : f_X12_set Y row (nI a) v (nI n) M Kn := by
  unfold f_X12_set
  refine LOOP2_inv (fun i M' => ∃ k : Nat, k ≤ n ∧ i = nI k ∧ M' = sI M row (setB (mI M row) a n v k)) (fun i _ => n - i.toNatClampNeg) ?_ 0 M ⟨0, Nat.zero_le _, rfl, (sI_same M row).symm⟩
  rintro i M' again ⟨k, hkn, rfl, rfl⟩ hag
  unfold L_X12_set_3
  rw [nI_cmp (by omega) (by omega)]
  refine ⟨fun c => ?_, fun c => ⟨hk, ?_, fun M6 e6 x7 e7 => ?_⟩⟩
  · have : k = n := by omega
    subst this
    exact h
  · rw [nI_add]; exact vp_in_nI (by omega) hb
  · rw [nI_add, nI_clamp (by omega), mI_sI_self, sI_sI] at e6
    rw [nI_1] at e7
    subst e6
    subst e7
    refine hag _ _ ⟨k + 1, by omega, rfl, rfl⟩ ?_
    rw [nI_clamp (by omega), nI_clamp (by omega)]
    omega
/-- the model's checksum: a bit, a byte, a row -/
def sm1 (c : Int64) : Int64 := (c >>> ((1 : Int32).toInt64 &&& 63)) ^^^ (if (c &&& 1) = 1 then 2197175160 else 0)
def smB (c : Int64) : Nat → Int64
  | 0 => c
  | n + 1 => sm1 (smB c n)
def smC (f : Nat → Int32) (a : Nat) : Nat → Int64
  | 0 => 4294967295
  | n + 1 => smB (smC f a n ^^^ (f (a + n)).toInt64) 8
theorem s_sum {Y : Ly} {row a n : Nat} {M : Mm} {Kn : Int64 → Mm → Prop} (hk : yK Y row = 101) (hn : a + n ≤ yN Y row) (hb : yN Y row < 2 ^ 31) (h : Kn (smC (mI M row) a n ^^^ 4294967295) M) : f_X12_sum Y row (nI a) (nI (a + n)) M Kn := by
  unfold f_X12_sum
  refine LOOP2_inv (fun x i => ∃ k : Nat, k ≤ n ∧ i = nI (a + k) ∧ x = smC (mI M row) a k) (fun _ i => a + n - i.toNatClampNeg) ?_ 4294967295 (nI a) ⟨0, Nat.zero_le _, rfl, rfl⟩
  rintro x i again ⟨k, hkn, rfl, rfl⟩ hag
  unfold L_X12_sum_7
  rw [nI_cmp (by omega) (by omega)]
  refine ⟨fun c => ?_, fun c => ⟨hk, vp_in_nI (by omega) hb, fun x6 e6 => ?_⟩⟩
  · have : k = n := by omega
    subst this
    exact h
  · rw [nI_clamp (by omega)] at e6
    subst e6
    refine LOOP2_inv (fun x i => ∃ j : Nat, j ≤ 8 ∧ i = nI j ∧ x = smB (smC (mI M row) a k ^^^ (mI M row (a + k)).toInt64) j) (fun _ i => 8 - i.toNatClampNeg) ?_ _ 0 ⟨0, by omega, rfl, rfl⟩
    rintro y i again2 ⟨j, hj, rfl, rfl⟩ hag2
    unfold L_X12_sum_24 f_X12_sum_44 f_X12_sum_63
    rw [show ((8 : Int32) ≤ nI j) = (nI 8 ≤ nI j) from rfl, nI_cmp (by omega) (by omega)]
    refine ⟨fun c x10 e10 => ?_, fun c => ⟨fun c2 x12 e12 => ⟨fun _ x14 e14 x15 e15 => ?_, fun z => absurd rfl z⟩, fun c2 x12 e12 => ⟨fun z => absurd z (by decide), fun _ x14 e14 x15 e15 => ?_⟩⟩⟩
    · have : j = 8 := by omega
      subst this
      rw [nI_1] at e10
      subst e10
      refine hag _ _ ⟨k + 1, by omega, rfl, rfl⟩ ?_
      rw [nI_clamp (by omega), nI_clamp (by omega)]
      omega
    · rw [nI_1] at e15
      subst e15
      refine hag2 _ _ ⟨j + 1, by omega, rfl, ?_⟩ ?_
      · rw [e14, e12]; simp only [smB, sm1]; rw [if_neg c2]
      · rw [nI_clamp (by omega), nI_clamp (by omega)]
        omega
    · rw [nI_1] at e15
      subst e15
      refine hag2 _ _ ⟨j + 1, by omega, rfl, ?_⟩ ?_
      · rw [e14, e12]; simp only [smB, sm1]; rw [if_pos c2]
      · rw [nI_clamp (by omega), nI_clamp (by omega)]
        omega
