/-! THE PURE LAYER. What the small methods answer, and to which memory they come. -/
theorem m1_same {α : Type} (f : Nat → α) (a : Nat) : m1 f a (f a) = f := by
  funext y
  simp only [m1]
  split
  · next h => rw [h]
  · rfl
theorem m1_m1 {α : Type} (f : Nat → α) (a : Nat) (u v : α) : m1 (m1 f a u) a v = m1 f a v := by
  funext y
  simp only [m1]
  split <;> rfl
theorem sI_same (M : Mm) (a : Nat) : sI M a (mI M a) = M := by
  obtain ⟨I, J, R⟩ := M
  show (m1 I a (I a), J, R) = (I, J, R)
  rw [m1_same]
theorem sI_sI (M : Mm) (a : Nat) (f g : Nat → Int32) : sI (sI M a f) a g = sI M a g := by
  obtain ⟨I, J, R⟩ := M
  show (m1 (m1 I a f) a g, J, R) = (m1 I a g, J, R)
  rw [m1_m1]
theorem bz_0 : bz 0 := Or.inl rfl
theorem bz_1 : bz 1 := Or.inr rfl
theorem s_isWithin {Y : Ly} {v lo hi : Int64} {M : Mm} {Kn : Int32 → Mm → Prop} (h : Kn (if lo ≤ v ∧ v ≤ hi then 1 else 0) M) : f_X11_isWithin Y v lo hi M Kn := by
  unfold f_X11_isWithin f_X11_isWithin_17 f_X11_isWithin_18
  refine ⟨fun c => ⟨bz_0, ?_⟩, fun c => ⟨fun d => ⟨bz_0, ?_⟩, fun d => ⟨bz_1, ?_⟩⟩⟩
  · rwa [if_neg (fun z => absurd c (Int64.not_lt.mpr z.1))] at h
  · rwa [if_neg (fun z => absurd d (Int64.not_lt.mpr z.2))] at h
  · rwa [if_pos ⟨Int64.not_lt.mp c, Int64.not_lt.mp d⟩] at h
/-- the bytes from a place on, the first one first -/
def beU (f : Nat → Int32) (a : Nat) : Nat → Int64
  | 0 => 0
  | n + 1 => (beU f a n <<< ((8 : Int32).toInt64 &&& 63)) ||| ((f (a + n) &&& 255).toInt64)
theorem nI_cmp {a b : Nat} (ha : a < 2 ^ 31) (hb : b < 2 ^ 31) : nI a ≤ nI b ↔ a ≤ b := nI_leI ha hb
theorem s_unsigned {Y : Ly} {row a n : Nat} {M : Mm} {Kn : Int64 → Mm → Prop} (hk : yK Y row = 100) (hn : a + n ≤ yN Y row) (hb : yN Y row < 2 ^ 31) (h : Kn (beU (mI M row) a n) M) : f_X1_unsigned Y row (nI a) (nI n) M Kn := by
  unfold f_X1_unsigned
  refine LOOP2_inv (fun x i => ∃ k : Nat, k ≤ n ∧ i = nI k ∧ x = beU (mI M row) a k) (fun _ i => n - i.toNatClampNeg) ?_ 0 0 ⟨0, Nat.zero_le _, rfl, rfl⟩
  rintro x i again ⟨k, hkn, rfl, rfl⟩ hag
  unfold L_X1_unsigned_5
  rw [nI_cmp (by omega) (by omega)]
  refine ⟨fun c => ?_, fun c => ⟨hk, ?_, fun x6 e6 x7 e7 => ?_⟩⟩
  · have : k = n := by omega
    subst this
    exact h
  · rw [nI_add]; exact vp_in_nI (by omega) hb
  · rw [nI_add, nI_clamp (by omega)] at e6
    rw [nI_1] at e7
    subst e6
    subst e7
    refine hag _ _ ⟨k + 1, by omega, rfl, rfl⟩ ?_
    rw [nI_clamp (by omega), nI_clamp (by omega)]
    omega
/-- n bytes of a number laid from a place on -/
def putB (f : Nat → Int32) (a n : Nat) (v : Int64) : Nat → (Nat → Int32)
  | 0 => f
  | k + 1 => m1 (putB f a n v k) (a + k) (((((v >>> ((8 * ((nI n - 1) - nI k)).toInt64 &&& 63)).toInt32).toInt8.toInt32).toInt8.toInt32))
theorem s_put {Y : Ly} {row a n : Nat} {v : Int64} {M : Mm} {Kn : Mm → Prop} (hk : yK Y row = 100) (hn : a + n ≤ yN Y row) (hb : yN Y row < 2 ^ 31) (h : Kn (sI M row (putB (mI M row) a n v n))) : f_X1_put Y row (nI a) (nI n) v M Kn := by
  unfold f_X1_put
  refine LOOP2_inv (fun i M' => ∃ k : Nat, k ≤ n ∧ i = nI k ∧ M' = sI M row (putB (mI M row) a n v k)) (fun i _ => n - i.toNatClampNeg) ?_ 0 M ⟨0, Nat.zero_le _, rfl, ?_⟩
  · rintro i M' again ⟨k, hkn, rfl, rfl⟩ hag
    unfold L_X1_put_3
    rw [nI_cmp (by omega) (by omega)]
    refine ⟨fun c => ?_, fun c => ⟨hk, ?_, fun M6 e6 x7 e7 => ?_⟩⟩
    · have : k = n := by omega
      subst this
      exact h
    · rw [nI_add]; exact vp_in_nI (by omega) hb
    · rw [nI_add, nI_clamp (by omega), mI_sI_self] at e6
      rw [nI_1] at e7
      subst e6
      subst e7
      refine hag _ _ ⟨k + 1, by omega, rfl, ?_⟩ ?_
      · rw [sI_sI]; rfl
      · rw [nI_clamp (by omega), nI_clamp (by omega)]
        omega
  · exact (sI_same M row).symm
def beS (f : Nat → Int32) (a n : Nat) : Int64 := (beU f a n <<< ((64 - 8 * nI n).toInt64 &&& 63)) >>> ((64 - 8 * nI n).toInt64 &&& 63)
theorem s_signed {Y : Ly} {row a n : Nat} {M : Mm} {Kn : Int64 → Mm → Prop} (hk : yK Y row = 100) (hn : a + n ≤ yN Y row) (hb : yN Y row < 2 ^ 31) (h : Kn (beS (mI M row) a n) M) : f_X1_signed Y row (nI a) (nI n) M Kn := by
  unfold f_X1_signed
  intro x1 e1
  subst e1
  exact s_unsigned hk hn hb h
/-! the checksum: one byte more -/
def ck4 (c : Int32) : Int32 := ((c.toUInt32 >>> ((4 : Int32).toUInt32 &&& Int32.toUInt32 31)).toInt32) ^^^ (c4_tab.getD (c &&& 15).toNatClampNeg 0)
def ckB (c b : Int32) : Int32 := ck4 (ck4 (c ^^^ (b &&& 255)))
def ckC (f : Nat → Int32) (a : Nat) : Nat → Int32
  | 0 => -1
  | n + 1 => ckB (ckC f a n) (f (a + n))
theorem and15 (x : Int32) : vp_in (x &&& 15) 16 := pk_andIn x 4 rfl (by decide)
theorem s_checksum {Y : Ly} {row a n : Nat} {M : Mm} {Kn : Int32 → Mm → Prop} (hk : yK Y row = 100) (hn : a + n ≤ yN Y row) (hb : yN Y row < 2 ^ 31) (h : Kn (ckC (mI M row) a n ^^^ (-1)) M) : f_X1_checksum Y row (nI a) (nI (a + n)) M Kn := by
  unfold f_X1_checksum
  refine LOOP2_inv (fun x i => ∃ k : Nat, k ≤ n ∧ i = nI (a + k) ∧ x = ckC (mI M row) a k) (fun _ i => a + n - i.toNatClampNeg) ?_ (-1) (nI a) ⟨0, Nat.zero_le _, rfl, rfl⟩
  rintro x i again ⟨k, hkn, rfl, rfl⟩ hag
  unfold L_X1_checksum_5
  rw [nI_cmp (by omega) (by omega)]
  refine ⟨fun c => ?_, fun c => ⟨hk, vp_in_nI (by omega) hb, fun x6 e6 => ⟨and15 _, fun x8 e8 => ⟨and15 _, fun x10 e10 x11 e11 => ?_⟩⟩⟩⟩
  · have : k = n := by omega
    subst this
    exact h
  · rw [nI_clamp (by omega)] at e6
    rw [nI_1] at e11
    subst e6
    subst e8
    subst e11
    refine hag _ _ ⟨k + 1, by omega, rfl, ?_⟩ ?_
    · rw [e10]; rfl
    · rw [nI_clamp (by omega), nI_clamp (by omega)]
      omega
theorem s_turned {Y : Ly} {v : Int64} {M : Mm} {Kn : Int64 → Mm → Prop} (h : Kn ((v <<< ((1 : Int32).toInt64 &&& 63)) ^^^ (v >>> ((63 : Int32).toInt64 &&& 63))) M) : f_X1_turned Y v M Kn := h
/-! the heads of batches -/
theorem s_baseOf {Y : Ly} {row a : Nat} {M : Mm} {Kn : Int64 → Mm → Prop} (hk : yK Y row = 100) (hn : a + 8 ≤ yN Y row) (hb : yN Y row < 2 ^ 31) (h : Kn (beS (mI M row) a 8) M) : f_X0_baseOf Y row (nI a) M Kn := by
  unfold f_X0_baseOf
  exact s_signed (n := 8) hk hn hb h
def b_sizeOf (f : Nat → Int32) (a : Nat) : Int32 := 12 + (beS f (a + 8) 4).toInt32
theorem s_sizeOf {Y : Ly} {row a : Nat} {M : Mm} {Kn : Int32 → Mm → Prop} (hk : yK Y row = 100) (hn : a + 12 ≤ yN Y row) (hb : yN Y row < 2 ^ 31) (h : Kn (b_sizeOf (mI M row) a) M) : f_X0_sizeOf Y row (nI a) M Kn := by
  unfold f_X0_sizeOf
  rw [show nI a + 8 = nI (a + 8) from nI_add a 8]
  exact s_signed (n := 4) hk (by omega) hb h
def b_lastOf (f : Nat → Int32) (a : Nat) : Int32 := (beS f (a + 23) 4).toInt32
theorem s_lastOf {Y : Ly} {row a : Nat} {M : Mm} {Kn : Int32 → Mm → Prop} (hk : yK Y row = 100) (hn : a + 27 ≤ yN Y row) (hb : yN Y row < 2 ^ 31) (h : Kn (b_lastOf (mI M row) a) M) : f_X0_lastOf Y row (nI a) M Kn := by
  unfold f_X0_lastOf
  rw [show nI a + 23 = nI (a + 23) from nI_add a 23]
  exact s_signed (n := 4) hk (by omega) hb h
def b_firstTimeOf (f : Nat → Int32) (a : Nat) : Int64 := beS f (a + 27) 8
theorem s_firstTimeOf {Y : Ly} {row a : Nat} {M : Mm} {Kn : Int64 → Mm → Prop} (hk : yK Y row = 100) (hn : a + 35 ≤ yN Y row) (hb : yN Y row < 2 ^ 31) (h : Kn (b_firstTimeOf (mI M row) a) M) : f_X0_firstTimeOf Y row (nI a) M Kn := by
  unfold f_X0_firstTimeOf
  rw [show nI a + 27 = nI (a + 27) from nI_add a 27]
  exact s_signed (n := 8) hk (by omega) hb h
def b_greatestTimeOf (f : Nat → Int32) (a : Nat) : Int64 := beS f (a + 35) 8
theorem s_greatestTimeOf {Y : Ly} {row a : Nat} {M : Mm} {Kn : Int64 → Mm → Prop} (hk : yK Y row = 100) (hn : a + 43 ≤ yN Y row) (hb : yN Y row < 2 ^ 31) (h : Kn (b_greatestTimeOf (mI M row) a) M) : f_X0_greatestTimeOf Y row (nI a) M Kn := by
  unfold f_X0_greatestTimeOf
  rw [show nI a + 35 = nI (a + 35) from nI_add a 35]
  exact s_signed (n := 8) hk (by omega) hb h
def b_producerOf (f : Nat → Int32) (a : Nat) : Int64 := beS f (a + 43) 8
theorem s_producerOf {Y : Ly} {row a : Nat} {M : Mm} {Kn : Int64 → Mm → Prop} (hk : yK Y row = 100) (hn : a + 51 ≤ yN Y row) (hb : yN Y row < 2 ^ 31) (h : Kn (b_producerOf (mI M row) a) M) : f_X0_producerOf Y row (nI a) M Kn := by
  unfold f_X0_producerOf
  rw [show nI a + 43 = nI (a + 43) from nI_add a 43]
  exact s_signed (n := 8) hk (by omega) hb h
def b_epochOf (f : Nat → Int32) (a : Nat) : Int32 := (beS f (a + 51) 2).toInt32
theorem s_epochOf {Y : Ly} {row a : Nat} {M : Mm} {Kn : Int32 → Mm → Prop} (hk : yK Y row = 100) (hn : a + 53 ≤ yN Y row) (hb : yN Y row < 2 ^ 31) (h : Kn (b_epochOf (mI M row) a) M) : f_X0_epochOf Y row (nI a) M Kn := by
  unfold f_X0_epochOf
  rw [show nI a + 51 = nI (a + 51) from nI_add a 51]
  exact s_signed (n := 2) hk (by omega) hb h
def b_sequenceOf (f : Nat → Int32) (a : Nat) : Int32 := (beS f (a + 53) 4).toInt32
theorem s_sequenceOf {Y : Ly} {row a : Nat} {M : Mm} {Kn : Int32 → Mm → Prop} (hk : yK Y row = 100) (hn : a + 57 ≤ yN Y row) (hb : yN Y row < 2 ^ 31) (h : Kn (b_sequenceOf (mI M row) a) M) : f_X0_sequenceOf Y row (nI a) M Kn := by
  unfold f_X0_sequenceOf
  rw [show nI a + 53 = nI (a + 53) from nI_add a 53]
  exact s_signed (n := 4) hk (by omega) hb h
def b_countOf (f : Nat → Int32) (a : Nat) : Int32 := (beS f (a + 57) 4).toInt32
theorem s_countOf {Y : Ly} {row a : Nat} {M : Mm} {Kn : Int32 → Mm → Prop} (hk : yK Y row = 100) (hn : a + 61 ≤ yN Y row) (hb : yN Y row < 2 ^ 31) (h : Kn (b_countOf (mI M row) a) M) : f_X0_countOf Y row (nI a) M Kn := by
  unfold f_X0_countOf
  rw [show nI a + 57 = nI (a + 57) from nI_add a 57]
  exact s_signed (n := 4) hk (by omega) hb h
def b_base (f : Nat → Int32) (a : Nat) : Int64 := beS f a 8
def b_next (f : Nat → Int32) (a : Nat) : Int32 := ((b_sequenceOf f a + b_lastOf f a) + 1) &&& 2147483647
theorem s_nextSequenceOf {Y : Ly} {row a : Nat} {M : Mm} {Kn : Int32 → Mm → Prop} (hk : yK Y row = 100) (hn : a + 57 ≤ yN Y row) (hb : yN Y row < 2 ^ 31) (h : Kn (b_next (mI M row) a) M) : f_X0_nextSequenceOf Y row (nI a) M Kn := by
  unfold f_X0_nextSequenceOf
  exact s_sequenceOf hk (by omega) hb (s_lastOf hk (by omega) hb h)
def b_true (f : Nat → Int32) (a n : Nat) : Prop := (beS f (a + 17) 4).toInt32 = ckC f (a + 21) (n - 21) ^^^ (-1)
theorem s_hasTrueChecksum {Y : Ly} {row a n : Nat} {M : Mm} {Kn : Int32 → Mm → Prop} (hk : yK Y row = 100) (h21 : 21 ≤ n) (hn : a + n ≤ yN Y row) (hb : yN Y row < 2 ^ 31) (h : ∀ r, (r = 1 ∧ b_true (mI M row) a n) ∨ (r = 0 ∧ ¬ b_true (mI M row) a n) → Kn r M) : f_X0_hasTrueChecksum Y row (nI a) (nI n) M Kn := by
  unfold f_X0_hasTrueChecksum f_X0_hasTrueChecksum_29
  rw [show nI a + 17 = nI (a + 17) from nI_add a 17, show nI a + 21 = nI (a + 21) from nI_add a 21, show nI a + nI n = nI ((a + 21) + (n - 21)) from by rw [nI_add]; congr 1; omega]
  refine s_signed (n := 4) hk (by omega) hb (s_checksum hk (by omega) hb ⟨fun c => ⟨bz_0, h 0 (Or.inr ⟨rfl, c⟩)⟩, fun c => ⟨bz_1, h 1 (Or.inl ⟨rfl, c⟩)⟩⟩)
/-! the model's numbers -/
def moN (f : Nat → Int32) (a : Nat) (z : Int64) : Nat → Int64
  | 0 => z
  | n + 1 => (moN f a z n <<< ((8 : Int32).toInt64 &&& 63)) ||| ((f (a + n)).toInt64)
def moS (f : Nat → Int32) (a n : Nat) : Int64 := moN f a (if f a ≤ 127 then 0 else -1) n
theorem s_number {Y : Ly} {row a n : Nat} {M : Mm} {Kn : Int64 → Mm → Prop} (hk : yK Y row = 101) (h1 : 1 ≤ n) (hn : a + n ≤ yN Y row) (hb : yN Y row < 2 ^ 31) (h : Kn (moS (mI M row) a n) M) : f_X12_number Y row (nI a) (nI n) M Kn := by
  have key : ∀ z, (z = if mI M row a ≤ 127 then (0 : Int64) else -1) → f_X12_number_15 Y row (nI a) (nI n) M Kn z := by
    intro z hz
    unfold f_X12_number_15
    refine LOOP2_inv (fun x i => ∃ k : Nat, k ≤ n ∧ i = nI k ∧ x = moN (mI M row) a z k) (fun _ i => n - i.toNatClampNeg) ?_ z 0 ⟨0, Nat.zero_le _, rfl, rfl⟩
    rintro x i again ⟨k, hkn, rfl, rfl⟩ hag
    unfold L_X12_number_19
    rw [nI_cmp (by omega) (by omega)]
    refine ⟨fun c => ?_, fun c => ⟨?_, fun x6 e6 x7 e7 => ?_⟩⟩
    · have : k = n := by omega
      subst this
      rw [hz]
      exact h
    · rw [nI_add]; exact vp_in_nI (by omega) hb
    · rw [nI_add, nI_clamp (by omega)] at e6
      rw [nI_1] at e7
      subst e6
      subst e7
      refine hag _ _ ⟨k + 1, by omega, rfl, rfl⟩ ?_
      rw [nI_clamp (by omega), nI_clamp (by omega)]
      omega
  unfold f_X12_number
  rw [nI_clamp (by omega)]
  exact ⟨hk, vp_in_nI (by omega) hb, fun c => key 0 (by rw [if_pos c]), fun c => key (-1) (by rw [if_neg c])⟩
