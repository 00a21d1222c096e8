/-! the head of the tape -/
def okN (p : Int64) (n : Int64) : Bool := if p = -1 then decide (n = -1) else decide (¬ n < 0)
def hdC (b : Bt) : List (Bool × Int32) :=
  [(decide (baB b = 0), 0), (decide (beS (fB b) 12 4 = 0), 12), (decide (fB b 16 = 2), 16), (decide (beS (fB b) 21 2 = 0), 21), (decide (beS (fB b) 23 4 = beS (fB b) 57 4 - 1), 23), (decide (0 ≤ ftB b ∧ ftB b ≤ 1125899906842624), 27), (decide (0 ≤ gtB b ∧ gtB b ≤ 1125899906842624), 35), (decide (-1 ≤ prB b ∧ prB b ≤ 1125899906842624), 43), (okN (prB b) (beS (fB b) 51 2), 51), (okN (prB b) (beS (fB b) 53 4), 53), (decide (1 ≤ beS (fB b) 57 4 ∧ beS (fB b) 57 4 ≤ 1000), 57)]
def wfF : List (Bool × Int32) → Int32
  | [] => -1
  | (c, p) :: xs => if c = true then wfF xs else p
theorem beS2_ext (f : Nat → Int32) (a : Nat) : ((beS f a 2).toInt32).toInt64 = beS f a 2 := by
  unfold beS
  obtain ⟨x, hx⟩ : ∃ x, x = beU f a 2 := ⟨_, rfl⟩
  rw [← hx, ← Int64.toBitVec_inj, Int32.toBitVec_toInt64, Int64.toBitVec_toInt32, shS x 2 (by simp)]
  apply BitVec.eq_of_getLsbD_eq
  intro i hi
  have key : ∀ j, j < 64 → ((x.toBitVec <<< (64 - 8 * 2)).sshiftRight (64 - 8 * 2)).getLsbD j = if j < 16 then x.toBitVec.getLsbD j else x.toBitVec.getLsbD 15 := by
    intro j hj
    rw [BitVec.getLsbD_sshiftRight]
    by_cases g : j < 16
    · rw [if_pos g, if_pos (by omega), BitVec.getLsbD_shiftLeft]
      simp [hj, show ¬ 64 ≤ j by omega, show ¬ 48 + j < 48 by omega, show 48 + j < 64 by omega]
    · rw [if_neg g, if_neg (by omega), BitVec.msb_eq_getLsbD_last, BitVec.getLsbD_shiftLeft]
      simp [hj]
  rw [BitVec.getLsbD_signExtend, key i hi]
  by_cases g : i < 32
  · simp only [hi, g, decide_true, Bool.true_and, if_true]
    rw [BitVec.signExtend_eq_setWidth_of_le _ (by decide), BitVec.getLsbD_setWidth, key i (by omega)]
    simp [g]
  · simp only [hi, g, decide_true, decide_false, Bool.true_and, if_false]
    rw [BitVec.msb_eq_getLsbD_last, BitVec.signExtend_eq_setWidth_of_le _ (by decide), BitVec.getLsbD_setWidth]
    rw [show (32 - 1 : Nat) = 31 from rfl, key 31 (by omega), if_neg (show ¬ i < 16 by omega)]
    simp
theorem ext_lt {x : Int64} (h : x.toInt32.toInt64 = x) : (x.toInt32 < 0 ↔ x < 0) ∧ (x.toInt32 = -1 ↔ x = -1) := by
  refine ⟨?_, ?_⟩
  · rw [Int32.lt_iff_toInt_lt, Int64.lt_iff_toInt_lt]
    have : x.toInt = x.toInt32.toInt := by
      conv => lhs; rw [← h]
      exact Int32.toInt_toInt64 _
    rw [this]; rfl
  · constructor
    · intro e; rw [← h, e]; rfl
    · intro e; rw [e]; rfl
theorem okN_c {p n : Int64} (h : n.toInt32.toInt64 = n) {Y : Ly} {M : Mm} {Kn : Int32 → Mm → Prop} (hK : Kn (if okN p n = true then 1 else 0) M) : f_X5_isProducersNumber Y p n.toInt32 M Kn := by
  unfold f_X5_isProducersNumber f_X5_isProducersNumber_30
  unfold okN at hK
  rw [(ext_lt h).1, (ext_lt h).2]
  refine ⟨fun c => ?_, fun c => ?_⟩
  · rw [if_neg c] at hK
    exact ⟨fun d => ⟨bz_0, by simpa [d] using hK⟩, fun d => ⟨bz_1, by simpa [d] using hK⟩⟩
  · rw [if_pos c] at hK
    exact ⟨fun d => ⟨bz_0, by simpa [d] using hK⟩, fun d => ⟨bz_1, by simpa [d] using hK⟩⟩
theorem b01 {c : Prop} [Decidable c] {A B : Prop} (ha : c → A) (hb : ¬ c → B) : ((¬ (if c then (1 : Int32) else 0) = 0) → A) ∧ ((if c then (1 : Int32) else 0) = 0 → B) := by
  by_cases h : c
  · rw [if_pos h]; exact ⟨fun _ => ha h, fun z => absurd z (by decide)⟩
  · rw [if_neg h]; exact ⟨fun z => absurd rfl z, fun _ => hb h⟩
theorem c_wrong {Y : Ly} {q : Nat → Nat → Nat} {nL W nB : Nat} {bt : Bt} {M : Mm} {Kn : Int32 → Mm → Prop} (hC : SC Y q nL W nB) (hL : Lie (mI M (q 0 1)) 0 bt) (h61 : 61 ≤ bt.length)
    (h : Kn (wfF (hdC bt)) M) : f_X5_wrongField Y (q 0 1) M Kn := by
  have k1 := sk_0_1 hC
  have n1 := sn_0_1 hC
  have rd : ∀ o n, o + n ≤ 61 → beS (mI M (q 0 1)) o n = beS (fB bt) o n := fun o n ho => by
    have := beS_fB (i := o) (n := n) hL (by omega)
    rwa [Nat.zero_add] at this
  unfold f_X5_wrongField
  refine s_countOf (a := 0) k1 (by omega) (by omega) ?_
  intro x3 e3
  have e3' : x3 = beS (fB bt) 57 4 := by
    rw [e3]; unfold b_countOf
    rw [Nat.zero_add, rd 57 4 (by omega), beS4_ext]
  clear e3
  subst e3'
  refine s_producerOf (a := 0) k1 (by omega) (by omega) (s_baseOf (a := 0) k1 (by omega) (by omega) ?_)
  rw [show b_producerOf (mI M (q 0 1)) 0 = prB bt from by unfold b_producerOf; rw [Nat.zero_add]; exact rd 43 8 (by omega), rd 0 8 (by omega)]
  refine ⟨fun z0 => ?_, fun z0 => ?_⟩
  rotate_left
  · have : wfF (hdC bt) = 0 := by
      have z0' : ¬ baB bt = 0 := z0
      simp [wfF, hdC, z0']
    rwa [this] at h
  have z0' : baB bt = 0 := z0
  refine s_signed (a := 12) (n := 4) k1 (by omega) (by omega) ?_
  rw [rd 12 4 (by omega)]
  refine ⟨fun z1 => ⟨k1, ?_, ?_⟩, fun z1 => ?_⟩
  rotate_left
  rotate_left
  · have : wfF (hdC bt) = 12 := by simp [wfF, hdC, z0', z1]
    rwa [this] at h
  · rw [n1]; exact vp_in_nI (n := 16) (by decide) (by decide)
  rw [show (16 : Int32).toNatClampNeg = 16 from rfl, show mI M (q 0 1) 16 = fB bt 16 from by have := Lie_fB hL 16 (by omega); rwa [Nat.zero_add] at this]
  refine ⟨fun z2 => ?_, fun z2 => ?_⟩
  rotate_left
  · have : wfF (hdC bt) = 16 := by simp [wfF, hdC, z0', z1, z2]
    rwa [this] at h
  refine s_signed (a := 21) (n := 2) k1 (by omega) (by omega) ?_
  rw [rd 21 2 (by omega)]
  refine ⟨fun z3 => ?_, fun z3 => ?_⟩
  rotate_left
  · have : wfF (hdC bt) = 21 := by simp [wfF, hdC, z0', z1, z2, z3]
    rwa [this] at h
  refine s_lastOf (a := 0) k1 (by omega) (by omega) ?_
  rw [show (b_lastOf (mI M (q 0 1)) 0).toInt64 = beS (fB bt) 23 4 from by unfold b_lastOf; rw [Nat.zero_add, rd 23 4 (by omega), beS4_ext]]
  refine ⟨fun z4 => ?_, fun z4 => ?_⟩
  rotate_left
  · have : wfF (hdC bt) = 23 := by simp [wfF, hdC, z0', z1, z2, z3, z4]
    rwa [this] at h
  refine s_firstTimeOf (a := 0) k1 (by omega) (by omega) (s_isWithin ?_)
  rw [show b_firstTimeOf (mI M (q 0 1)) 0 = ftB bt from by unfold b_firstTimeOf; rw [Nat.zero_add]; exact rd 27 8 (by omega)]
  refine b01 (fun z5 => ?_) (fun z5 => ?_)
  rotate_left
  · have : wfF (hdC bt) = 27 := by simp only [wfF, hdC, z0', z1, z2, z3, z4, z5, decide_true, decide_false, if_true]; rfl
    rwa [this] at h
  refine s_greatestTimeOf (a := 0) k1 (by omega) (by omega) (s_isWithin ?_)
  rw [show b_greatestTimeOf (mI M (q 0 1)) 0 = gtB bt from by unfold b_greatestTimeOf; rw [Nat.zero_add]; exact rd 35 8 (by omega)]
  refine b01 (fun z6 => s_isWithin ?_) (fun z6 => ?_)
  rotate_left
  · have : wfF (hdC bt) = 35 := by simp only [wfF, hdC, z0', z1, z2, z3, z4, z5, z6, decide_true, decide_false, if_true]; rfl
    rwa [this] at h
  refine b01 (fun z7 => ?_) (fun z7 => ?_)
  rotate_left
  · have : wfF (hdC bt) = 43 := by simp only [wfF, hdC, z0', z1, z2, z3, z4, z5, z6, z7, decide_true, decide_false, if_true]; rfl
    rwa [this] at h
  refine s_epochOf (a := 0) k1 (by omega) (by omega) ?_
  rw [show b_epochOf (mI M (q 0 1)) 0 = (beS (fB bt) 51 2).toInt32 from by unfold b_epochOf; rw [Nat.zero_add, rd 51 2 (by omega)]]
  refine okN_c (beS2_ext _ _) (b01 (fun z8 => ?_) (fun z8 => ?_))
  rotate_left
  · have : wfF (hdC bt) = 51 := by simp only [wfF, hdC, z0', z1, z2, z3, z4, z5, z6, z7, z8, decide_true, decide_false, if_true]; rfl
    rwa [this] at h
  refine s_sequenceOf (a := 0) k1 (by omega) (by omega) ?_
  rw [show b_sequenceOf (mI M (q 0 1)) 0 = (beS (fB bt) 53 4).toInt32 from by unfold b_sequenceOf; rw [Nat.zero_add, rd 53 4 (by omega)]]
  refine okN_c (beS4_ext _ _) (b01 (fun z9 => s_isWithin ?_) (fun z9 => ?_))
  rotate_left
  · have : wfF (hdC bt) = 53 := by simp only [wfF, hdC, z0', z1, z2, z3, z4, z5, z6, z7, z8, z9, decide_true, decide_false, if_true]; rfl
    rwa [this] at h
  unfold f_X5_wrongField_181
  have := b01 (c := 1 ≤ beS (fB bt) 57 4 ∧ beS (fB bt) 57 4 ≤ 1000) (A := Kn (-1) M) (B := Kn 57 M) (fun z => by
    have e : wfF (hdC bt) = -1 := by simp only [wfF, hdC, z0', z1, z2, z3, z4, z5, z6, z7, z8, z9, z, decide_true, and_self, if_true]
    rwa [e] at h) (fun z => by
    have e : wfF (hdC bt) = 57 := by simp only [wfF, hdC, z0', z1, z2, z3, z4, z5, z6, z7, z8, z9, z, decide_true, decide_false, if_true]; rfl
    rwa [e] at h)
  exact ⟨this.2, this.1⟩
