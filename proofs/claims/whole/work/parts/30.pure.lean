/-! THE PURE LAYER. What the small methods answer, and to which memory they come. -/
theorem m1_same {α : Type} (f : Nat → α) (a : Nat) : m1 f a (f a) = f := by
  funext y
  simp only [m1]
  split
  · next h => rw [h]
  · rfl
theorem m1_m1 {α : Type} (f : Nat → α) (a : Nat) (u v : α) : m1 (m1 f a u) a v = m1 f a v := by
  funext y
  simp only [m1]
  split <;> rfl
theorem sI_same (M : Mm) (a : Nat) : sI M a (mI M a) = M := by
  obtain ⟨I, J, R⟩ := M
  show (m1 I a (I a), J, R) = (I, J, R)
  rw [m1_same]
theorem sI_sI (M : Mm) (a : Nat) (f g : Nat → Int32) : sI (sI M a f) a g = sI M a g := by
  obtain ⟨I, J, R⟩ := M
  show (m1 (m1 I a f) a g, J, R) = (m1 I a g, J, R)
  rw [m1_m1]
theorem bz_0 : bz 0 := Or.inl rfl
theorem bz_1 : bz 1 := Or.inr rfl
theorem s_isWithin {Y : Ly} {v lo hi : Int64} {M : Mm} {Kn : Int32 → Mm → Prop} (h : Kn (if lo ≤ v ∧ v ≤ hi then 1 else 0) M) : f_X11_isWithin Y v lo hi M Kn := by
  unfold f_X11_isWithin f_X11_isWithin_17 f_X11_isWithin_18
  refine ⟨fun c => ⟨bz_0, ?_⟩, fun c => ⟨fun d => ⟨bz_0, ?_⟩, fun d => ⟨bz_1, ?_⟩⟩⟩
  · rwa [if_neg (fun z => absurd c (Int64.not_lt.mpr z.1))] at h
  · rwa [if_neg (fun z => absurd d (Int64.not_lt.mpr z.2))] at h
  · rwa [if_pos ⟨Int64.not_lt.mp c, Int64.not_lt.mp d⟩] at h
/-- the bytes from a place on, the first one first -/
def beU (f : Nat → Int32) (a : Nat) : Nat → Int64
  | 0 => 0
  | n + 1 => (beU f a n <<< ((8 : Int32).toInt64 &&& 63)) ||| ((f (a + n) &&& 255).toInt64)
theorem nI_cmp {a b : Nat} (ha : a < 2 ^ 31) (hb : b < 2 ^ 31) : nI a ≤ nI b ↔ a ≤ b := nI_leI ha hb
theorem s_unsigned {Y : Ly} {row a n : Nat} {M : Mm} {Kn : Int64 → Mm → Prop} (hk : yK Y row = 100) (hn : a + n ≤ yN Y row) (hb : yN Y row < 2 ^ 31) (h : Kn (beU (mI M row) a n) M) : f_X1_unsigned Y row (nI a) (nI n) M Kn := by
  unfold f_X1_unsigned
  refine LOOP2_inv (fun x i => ∃ k : Nat, k ≤ n ∧ i = nI k ∧ x = beU (mI M row) a k) (fun _ i => n - i.toNatClampNeg) ?_ 0 0 ⟨0, Nat.zero_le _, rfl, rfl⟩
  rintro x i again ⟨k, hkn, rfl, rfl⟩ hag
  unfold L_X1_unsigned_5
  rw [nI_cmp (by omega) (by omega)]
  refine ⟨fun c => ?_, fun c => ⟨hk, ?_, fun x6 e6 x7 e7 => ?_⟩⟩
  · have : k = n := by omega
    subst this
    exact h
  · rw [nI_add]; exact vp_in_nI (by omega) hb
  · rw [nI_add, nI_clamp (by omega)] at e6
    rw [nI_1] at e7
    subst e6
    subst e7
    refine hag _ _ ⟨k + 1, by omega, rfl, rfl⟩ ?_
    rw [nI_clamp (by omega), nI_clamp (by omega)]
    omega
/-- n bytes of a number laid from a place on -/
def putB (f : Nat → Int32) (a n : Nat) (v : Int64) : Nat → (Nat → Int32)
  | 0 => f
  | k + 1 => m1 (putB f a n v k) (a + k) (((((v >>> ((8 * ((nI n - 1) - nI k)).toInt64 &&& 63)).toInt32).toInt8.toInt32).toInt8.toInt32))
theorem s_put {Y : Ly} {row a n : Nat} {v : Int64} {M : Mm} {Kn : Mm → Prop} (hk : yK Y row = 100) (hn : a + n ≤ yN Y row) (hb : yN Y row < 2 ^ 31) (h : Kn (sI M row (putB (mI M row) a n v n))) : f_X1_put Y row (nI a) (nI n) v M Kn := by
  unfold f_X1_put
  refine LOOP2_inv (fun i M' => ∃ k : Nat, k ≤ n ∧ i = nI k ∧ M' = sI M row (putB (mI M row) a n v k)) (fun i _ => n - i.toNatClampNeg) ?_ 0 M ⟨0, Nat.zero_le _, rfl, ?_⟩
  · rintro i M' again ⟨k, hkn, rfl, rfl⟩ hag
    unfold L_X1_put_3
    rw [nI_cmp (by omega) (by omega)]
    refine ⟨fun c => ?_, fun c => ⟨hk, ?_, fun M6 e6 x7 e7 => ?_⟩⟩
    · have : k = n := by omega
      subst this
      exact h
    · rw [nI_add]; exact vp_in_nI (by omega) hb
    · rw [nI_add, nI_clamp (by omega), mI_sI_self] at e6
      rw [nI_1] at e7
      subst e6
      subst e7
      refine hag _ _ ⟨k + 1, by omega, rfl, ?_⟩ ?_
      · rw [sI_sI]; rfl
      · rw [nI_clamp (by omega), nI_clamp (by omega)]
        omega
  · exact (sI_same M row).symm
def beS (f : Nat → Int32) (a n : Nat) : Int64 := (beU f a n <<< ((64 - 8 * nI n).toInt64 &&& 63)) >>> ((64 - 8 * nI n).toInt64 &&& 63)
theorem s_signed {Y : Ly} {row a n : Nat} {M : Mm} {Kn : Int64 → Mm → Prop} (hk : yK Y row = 100) (hn : a + n ≤ yN Y row) (hb : yN Y row < 2 ^ 31) (h : Kn (beS (mI M row) a n) M) : f_X1_signed Y row (nI a) (nI n) M Kn := by
  unfold f_X1_signed
  intro x1 e1
  subst e1
  exact s_unsigned hk hn hb h
/-! the checksum: one byte more -/
def ck4 (c : Int32) : Int32 := ((c.toUInt32 >>> ((4 : Int32).toUInt32 &&& Int32.toUInt32 31)).toInt32) ^^^ (c4_tab.getD (c &&& 15).toNatClampNeg 0)
def ckB (c b : Int32) : Int32 := ck4 (ck4 (c ^^^ (b &&& 255)))
def ckC (f : Nat → Int32) (a : Nat) : Nat → Int32
  | 0 => -1
  | n + 1 => ckB (ckC f a n) (f (a + n))
theorem and15 (x : Int32) : vp_in (x &&& 15) 16 := pk_andIn x 4 rfl (by decide)
theorem s_checksum {Y : Ly} {row a n : Nat} {M : Mm} {Kn : Int32 → Mm → Prop} (hk : yK Y row = 100) (hn : a + n ≤ yN Y row) (hb : yN Y row < 2 ^ 31) (h : Kn (ckC (mI M row) a n ^^^ (-1)) M) : f_X1_checksum Y row (nI a) (nI (a + n)) M Kn := by
  unfold f_X1_checksum
  refine LOOP2_inv (fun x i => ∃ k : Nat, k ≤ n ∧ i = nI (a + k) ∧ x = ckC (mI M row) a k) (fun _ i => a + n - i.toNatClampNeg) ?_ (-1) (nI a) ⟨0, Nat.zero_le _, rfl, rfl⟩
  rintro x i again ⟨k, hkn, rfl, rfl⟩ hag
  unfold L_X1_checksum_5
  rw [nI_cmp (by omega) (by omega)]
  refine ⟨fun c => ?_, fun c => ⟨hk, vp_in_nI (by omega) hb, fun x6 e6 => ⟨and15 _, fun x8 e8 => ⟨and15 _, fun x10 e10 x11 e11 => ?_⟩⟩⟩⟩
  · have : k = n := by omega
    subst this
    exact h
  · rw [nI_clamp (by omega)] at e6
    rw [nI_1] at e11
    subst e6
    subst e8
    subst e11
    refine hag _ _ ⟨k + 1, by omega, rfl, ?_⟩ ?_
    · rw [e10]; rfl
    · rw [nI_clamp (by omega), nI_clamp (by omega)]
      omega
theorem s_turned {Y : Ly} {v : Int64} {M : Mm} {Kn : Int64 → Mm → Prop} (h : Kn ((v <<< ((1 : Int32).toInt64 &&& 63)) ^^^ (v >>> ((63 : Int32).toInt64 &&& 63))) M) : f_X1_turned Y v M Kn := h
/-! the heads of batches -/
theorem s_baseOf {Y : Ly} {row a : Nat} {M : Mm} {Kn : Int64 → Mm → Prop} (hk : yK Y row = 100) (hn : a + 8 ≤ yN Y row) (hb : yN Y row < 2 ^ 31) (h : Kn (beS (mI M row) a 8) M) : f_X0_baseOf Y row (nI a) M Kn := by
  unfold f_X0_baseOf
  exact s_signed (n := 8) hk hn hb h
