/-! rows that are filled -/
def fillR (f : Nat → Int32) (a : Nat) (v : Int32) : Nat → (Nat → Int32)
  | 0 => f
  | k + 1 => m1 (fillR f a v k) (a + k) v
theorem fillR_at (f : Nat → Int32) (a : Nat) (v : Int32) (n j : Nat) : fillR f a v n j = if a ≤ j ∧ j < a + n then v else f j := by
  induction n with
  | zero => rw [if_neg (by omega)]; rfl
  | succ n ih =>
    simp only [fillR, m1]
    by_cases h : j = a + n
    · rw [if_pos h, if_pos (by omega)]
    · rw [if_neg h, ih]
      by_cases h2 : a ≤ j ∧ j < a + n
      · rw [if_pos h2, if_pos (by omega)]
      · rw [if_neg h2, if_neg (by omega)]
theorem nI_ge0 {n : Nat} (h : n < 2 ^ 31) : (0 : Int32) ≤ nI n := nI_pos' h
theorem s_fillB {Y : Ly} {row a n : Nat} {v : Int32} {M : Mm} {Kn : Mm → Prop} (hk : yK Y row = 100) (hn : a + n ≤ yN Y row) (hb : yN Y row < 2 ^ 31) (h : Kn (sI M row (fillR (mI M row) a v.toInt8.toInt32 n))) : f_J7_fill_eb02e Y row (nI a) (nI (a + n)) v M Kn := by
  unfold f_J7_fill_eb02e f_J7_rangeCheck_23922
  refine ⟨hk, fun _ => ⟨fun _ => ⟨fun _ => ?_, fun c => absurd (nI_le hn hb) c⟩, fun c => absurd (nI_ge0 (by omega)) c⟩, fun c => absurd (nI_le (by omega) (by omega)) c⟩
  refine LOOP2_inv (fun i M' => ∃ k : Nat, k ≤ n ∧ i = nI (a + k) ∧ M' = sI M row (fillR (mI M row) a v.toInt8.toInt32 k)) (fun i _ => a + n - i.toNatClampNeg) ?_ (nI a) M ⟨0, Nat.zero_le _, rfl, (sI_same M row).symm⟩
  rintro i M' again ⟨k, hkn, rfl, rfl⟩ hag
  unfold L_J7_fill_eb02e_10
  rw [nI_cmp (by omega) (by omega)]
  refine ⟨fun c => ?_, fun c => ⟨vp_in_nI (by omega) hb, fun M6 e6 x7 e7 => ?_⟩⟩
  · have : k = n := by omega
    subst this
    exact h
  · rw [nI_clamp (by omega), mI_sI_self, sI_sI] at e6
    rw [nI_1] at e7
    subst e6
    subst e7
    refine hag _ _ ⟨k + 1, by omega, rfl, rfl⟩ ?_
    rw [nI_clamp (by omega), nI_clamp (by omega)]
    omega
theorem s_fillI {Y : Ly} {row a n : Nat} {v : Int32} {M : Mm} {Kn : Mm → Prop} (hk : yK Y row = 101) (hn : a + n ≤ yN Y row) (hb : yN Y row < 2 ^ 31) (h : Kn (sI M row (fillR (mI M row) a v n))) : f_J7_fill_fda19 Y row (nI a) (nI (a + n)) v M Kn := by
  unfold f_J7_fill_fda19 f_J7_rangeCheck_23922
  refine ⟨hk, fun _ => ⟨fun _ => ⟨fun _ => ?_, fun c => absurd (nI_le hn hb) c⟩, fun c => absurd (nI_ge0 (by omega)) c⟩, fun c => absurd (nI_le (by omega) (by omega)) c⟩
  refine LOOP2_inv (fun i M' => ∃ k : Nat, k ≤ n ∧ i = nI (a + k) ∧ M' = sI M row (fillR (mI M row) a v k)) (fun i _ => a + n - i.toNatClampNeg) ?_ (nI a) M ⟨0, Nat.zero_le _, rfl, (sI_same M row).symm⟩
  rintro i M' again ⟨k, hkn, rfl, rfl⟩ hag
  unfold L_J7_fill_fda19_10
  rw [nI_cmp (by omega) (by omega)]
  refine ⟨fun c => ?_, fun c => ⟨vp_in_nI (by omega) hb, fun M6 e6 x7 e7 => ?_⟩⟩
  · have : k = n := by omega
    subst this
    exact h
  · rw [nI_clamp (by omega), mI_sI_self, sI_sI] at e6
    rw [nI_1] at e7
    subst e6
    subst e7
    refine hag _ _ ⟨k + 1, by omega, rfl, rfl⟩ ?_
    rw [nI_clamp (by omega), nI_clamp (by omega)]
    omega
theorem s_fillAll {Y : Ly} {row : Nat} {v : Int32} {M : Mm} {Kn : Mm → Prop} (hk : yK Y row = 100) (hb : yN Y row < 2 ^ 31) (h : Kn (sI M row (fillR (mI M row) 0 v.toInt8.toInt32 (yN Y row)))) : f_J7_fill_031fb Y row v M Kn := by
  unfold f_J7_fill_031fb
  refine ⟨hk, fun x2 e2 => ?_⟩
  subst e2
  refine LOOP2_inv (fun i M' => ∃ k : Nat, k ≤ yN Y row ∧ i = nI k ∧ M' = sI M row (fillR (mI M row) 0 v.toInt8.toInt32 k)) (fun i _ => yN Y row - i.toNatClampNeg) ?_ 0 M ⟨0, Nat.zero_le _, rfl, (sI_same M row).symm⟩
  rintro i M' again ⟨k, hkn, rfl, rfl⟩ hag
  unfold L_J7_fill_031fb_5
  rw [nI_cmp (by omega) (by omega)]
  refine ⟨fun c => ?_, fun c => ⟨vp_in_nI (by omega) hb, fun M6 e6 x7 e7 => ?_⟩⟩
  · have : k = yN Y row := by omega
    subst this
    exact h
  · rw [nI_clamp (by omega), mI_sI_self, sI_sI] at e6
    rw [nI_1] at e7
    subst e6
    subst e7
    refine hag _ _ ⟨k + 1, by omega, rfl, ?_⟩ ?_
    · simp only [fillR, Nat.zero_add]
    · rw [nI_clamp (by omega), nI_clamp (by omega)]
      omega
/-! a batch's head, written: what the row holds behind it -/
def w_sign (f : Nat → Int32) (a : Nat) (p : Int64) (e q : Int32) : Nat → Int32 := putB (putB (putB f (a + 43) 8 p 8) (a + 51) 2 e.toInt64 2) (a + 53) 4 q.toInt64 4
theorem s_sign {Y : Ly} {row a : Nat} {p : Int64} {e q : Int32} {M : Mm} {Kn : Mm → Prop} (hk : yK Y row = 100) (hn : a + 57 ≤ yN Y row) (hb : yN Y row < 2 ^ 31) (h : Kn (sI M row (w_sign (mI M row) a p e q))) : f_X0_sign Y row (nI a) p e q M Kn := by
  unfold f_X0_sign
  rw [show nI a + 43 = nI (a + 43) from nI_add a 43, show nI a + 51 = nI (a + 51) from nI_add a 51, show nI a + 53 = nI (a + 53) from nI_add a 53]
  refine s_put (n := 8) hk (by omega) hb (s_put (n := 2) hk (by omega) hb (s_put (n := 4) hk (by omega) hb ?_))
  simp only [sI_sI, mI_sI_self]
  exact h
def w_recount (f : Nat → Int32) (a : Nat) (n : Int32) (g : Int64) : Nat → Int32 := putB (putB f (a + 35) 8 g 8) (a + 57) 4 n.toInt64 4
theorem s_recount {Y : Ly} {row a : Nat} {n : Int32} {g : Int64} {M : Mm} {Kn : Mm → Prop} (hk : yK Y row = 100) (hn : a + 61 ≤ yN Y row) (hb : yN Y row < 2 ^ 31) (h : Kn (sI M row (w_recount (mI M row) a n g))) : f_X0_recount Y row (nI a) n g M Kn := by
  unfold f_X0_recount
  rw [show nI a + 35 = nI (a + 35) from nI_add a 35, show nI a + 57 = nI (a + 57) from nI_add a 57]
  refine s_put (n := 8) hk (by omega) hb (s_put (n := 4) hk (by omega) hb ?_)
  simp only [sI_sI, mI_sI_self]
  exact h
def w_begin (f : Nat → Int32) (a : Nat) (n : Int32) (t g : Int64) : Nat → Int32 := putB (putB (putB (putB (m1 (fillR f a 0 61) (a + 16) 2) (a + 23) 4 (n - 1).toInt64 4) (a + 27) 8 t 8) (a + 35) 8 g 8) (a + 57) 4 n.toInt64 4
theorem s_begin {Y : Ly} {row a : Nat} {n : Int32} {t g : Int64} {M : Mm} {Kn : Mm → Prop} (hk : yK Y row = 100) (hn : a + 61 ≤ yN Y row) (hb : yN Y row < 2 ^ 31) (h : Kn (sI M row (w_begin (mI M row) a n t g))) : f_X0_begin Y row (nI a) n t g M Kn := by
  unfold f_X0_begin
  rw [show nI a + 61 = nI (a + 61) from nI_add a 61, show nI a + 16 = nI (a + 16) from nI_add a 16, show nI a + 23 = nI (a + 23) from nI_add a 23, show nI a + 27 = nI (a + 27) from nI_add a 27, show nI a + 35 = nI (a + 35) from nI_add a 35, show nI a + 57 = nI (a + 57) from nI_add a 57]
  refine s_fillB hk (by omega) hb ⟨hk, vp_in_nI (by omega) hb, fun M4 e4 => ?_⟩
  subst e4
  refine s_put (n := 4) hk (by omega) hb (s_put (n := 8) hk (by omega) hb (s_put (n := 8) hk (by omega) hb (s_put (n := 4) hk (by omega) hb ?_)))
  rw [nI_clamp (by omega)]
  simp only [sI_sI, mI_sI_self]
  exact h
def w_finish (f : Nat → Int32) (a n : Nat) : Nat → Int32 := putB (putB f (a + 8) 4 (nI n - 12).toInt64 4) (a + 17) 4 (ckC (putB f (a + 8) 4 (nI n - 12).toInt64 4) (a + 21) (n - 21) ^^^ (-1)).toInt64 4
theorem s_finish {Y : Ly} {row a n : Nat} {M : Mm} {Kn : Mm → Prop} (hk : yK Y row = 100) (h21 : 21 ≤ n) (hn : a + n ≤ yN Y row) (hb : yN Y row < 2 ^ 31) (h : Kn (sI M row (w_finish (mI M row) a n))) : f_X0_finish Y row (nI a) (nI n) M Kn := by
  unfold f_X0_finish
  rw [show nI a + 8 = nI (a + 8) from nI_add a 8, show nI a + 17 = nI (a + 17) from nI_add a 17, show nI a + 21 = nI (a + 21) from nI_add a 21, show nI a + nI n = nI ((a + 21) + (n - 21)) from by rw [nI_add]; congr 1; omega]
  refine s_put (n := 4) hk (by omega) hb (s_checksum hk (by omega) hb (s_put (n := 4) hk (by omega) hb ?_))
  simp only [sI_sI, mI_sI_self]
  exact h
