def Vx (x : List Int32) (z : Int64) : Prop := 0 < x.length ∧ ∀ y, vr 0 0 (x ++ y) = some (z, y)
theorem vr_Vx {bs r : List Int32} {z : Int64} (h : vr 0 0 bs = some (z, r)) : ∃ x, bs = x ++ r ∧ Vx x z := by
  obtain ⟨x, e, hx, k⟩ := vr_rest h
  exact ⟨x, e, hx, k⟩
/-- a record, piece by piece, and what stands behind it -/
def RF (bs : List Int32) (c : Rc) : Prop :=
  ∃ (x0 : List Int32) (z : Int64) (x1 : List Int32) (t : Int64) (x2 : List Int32) (o : Int64) (x3 : List Int32) (k : Int64) (T1 : List Int32) (x4 : List Int32) (v : Int64) (T2 y : List Int32),
    bs = x0 ++ (0 :: (x1 ++ (x2 ++ (x3 ++ (T1 ++ (x4 ++ (T2 ++ (0 :: y)))))))) ∧ Vx x0 z ∧ Vx x1 t ∧ Vx x2 o ∧ Vx x3 k ∧ Vx x4 v ∧
    (uzz z).toInt = ((2 + x1.length + x2.length + x3.length + T1.length + x4.length + T2.length : Nat) : Int) ∧
    -1 ≤ (uzz k).toInt ∧ T1.length = nn k ∧ -1 ≤ (uzz v).toInt ∧ T2.length = nn v ∧
    c = (uzz t, uzz o, uzz k, x0.length + 1 + x1.length + x2.length + x3.length, uzz v, x0.length + 1 + x1.length + x2.length + x3.length + T1.length + x4.length, x0.length + 2 + x1.length + x2.length + x3.length + T1.length + x4.length + T2.length)
theorem RD_RF {bs : List Int32} {c : Rc} (h : RD bs c) : RF bs c := by
  obtain ⟨z, r0, b1, t, b2, o, b3, k, b4, v, b5, e1, e2, e3, e4, e5, e6, e7, e8, e9, e10, e11, e12⟩ := h
  obtain ⟨x0, f0, V0⟩ := vr_Vx e1
  obtain ⟨x1, f1, V1⟩ := vr_Vx e5
  obtain ⟨x2, f2, V2⟩ := vr_Vx e6
  obtain ⟨x3, f3, V3⟩ := vr_Vx e7
  obtain ⟨x4, f4, V4⟩ := vr_Vx e9
  simp only [badT, not_or, Int.not_lt] at e8 e10
  have g1 : b4 = b4.take (nn k) ++ (x4 ++ b5) := by rw [← f4, List.take_append_drop]
  have g2 : b5 = b5.take (nn v) ++ [0] := by rw [← e11, List.take_append_drop]
  have g0 : r0 = (0 :: b1) ++ r0.drop (nn z) := by rw [← e4, List.take_append_drop]
  have l1 : (b4.take (nn k)).length = nn k := by rw [List.length_take]; unfold nn; omega
  have l2 : (b5.take (nn v)).length = nn v := by rw [List.length_take]; unfold nn; omega
  have l0 : (r0.take (nn z)).length = nn z := by rw [List.length_take]; unfold nn; omega
  have lb : b1 = x1 ++ (x2 ++ (x3 ++ (b4.take (nn k) ++ (x4 ++ (b5.take (nn v) ++ [0]))))) := by
    rw [← g2, ← g1, ← f3, ← f2, ← f1]
  have hz : nn z = 2 + x1.length + x2.length + x3.length + nn k + x4.length + nn v := by
    rw [← l0, e4, lb]
    simp only [List.length_cons, List.length_append, List.length_nil, l1, l2]; omega
  have l4 : b4.length = nn k + x4.length + nn v + 1 := by
    have := congrArg List.length g1
    have h5 := congrArg List.length g2
    simp only [List.length_append, List.length_cons, List.length_nil, l1, l2] at this h5
    omega
  have l5 : b5.length = nn v + 1 := by
    have h5 := congrArg List.length g2
    simp only [List.length_append, List.length_cons, List.length_nil, l2] at h5
    omega
  have lbs : bs.length = x0.length + r0.length := by rw [f0, List.length_append]
  refine ⟨x0, z, x1, t, x2, o, x3, k, b4.take (nn k), x4, v, b5.take (nn v), r0.drop (nn z), ?_, V0, V1, V2, V3, V4, ?_, e8.1, l1, e10.1, l2, ?_⟩
  · rw [f0]
    congr 1
    refine g0.trans ?_
    rw [lb]
    simp
  · rw [l1, l2]; unfold nn at hz ⊢; omega
  · rw [e12, l1, l2, hz, l4, l5, lbs]
    simp only [Prod.mk.injEq, true_and]
    omega
theorem RF_RD {bs : List Int32} {c : Rc} (h : RF bs c) : RD bs c := by
  obtain ⟨x0, z, x1, t, x2, o, x3, k, T1, x4, v, T2, y, e, V0, V1, V2, V3, V4, hz, hk, l1, hv, l2, ec⟩ := h
  have hn : nn z = 2 + x1.length + x2.length + x3.length + T1.length + x4.length + T2.length := by unfold nn; omega
  have e' : bs = x0 ++ ((0 :: (x1 ++ (x2 ++ (x3 ++ (T1 ++ (x4 ++ (T2 ++ [0]))))))) ++ y) := by rw [e]; simp
  refine ⟨z, _, x1 ++ (x2 ++ (x3 ++ (T1 ++ (x4 ++ (T2 ++ [0]))))), t, _, o, _, k, _, v, T2 ++ [0], by rw [e']; exact V0.2 _, by omega, ?_, ?_, V1.2 _, V2.2 _, V3.2 _, ?_, ?_, ?_, ?_⟩
  · simp only [List.length_append, List.length_cons, List.length_nil]; omega
  · rw [List.take_left']
    rw [hn]; simp only [List.length_append, List.length_cons, List.length_nil]; omega
  · simp only [badT, List.length_append, List.length_cons, List.length_nil]; unfold nn at l1; omega
  · rw [List.drop_left' l1]; exact V4.2 _
  · simp only [badT, List.length_append, List.length_cons, List.length_nil]; unfold nn at l2; omega
  · refine ⟨by rw [List.drop_left' l2], ?_⟩
    rw [ec]
    simp only [Prod.mk.injEq, true_and, e', List.length_append, List.length_cons, List.length_nil]
    omega
/-- the same, where each piece may use all bytes and the end is looked at last -/
def RM (bs : List Int32) (c : Rc) : Prop :=
  ∃ (z : Int64) (r0 c1 : List Int32) (t : Int64) (c2 : List Int32) (o : Int64) (c3 : List Int32) (k : Int64) (c4 : List Int32) (v : Int64) (c5 c6 : List Int32),
    vr 0 0 bs = some (z, r0) ∧ 0 ≤ (uzz z).toInt ∧ (uzz z).toInt ≤ (r0.length : Int) ∧ r0 = 0 :: c1 ∧ vr 0 0 c1 = some (t, c2) ∧ vr 0 0 c2 = some (o, c3) ∧ vr 0 0 c3 = some (k, c4) ∧ ¬ badT k c4 ∧ vr 0 0 (c4.drop (nn k)) = some (v, c5) ∧ ¬ badT v c5 ∧ c5.drop (nn v) = 0 :: c6 ∧ c6.length + nn z = r0.length ∧
    c = (uzz t, uzz o, uzz k, bs.length - c4.length, uzz v, bs.length - c5.length, bs.length - c6.length)
theorem RM_RF {bs : List Int32} {c : Rc} (h : RM bs c) : RF bs c := by
  obtain ⟨z, r0, c1, t, c2, o, c3, k, c4, v, c5, c6, e1, e2, e3, e4, e5, e6, e7, e8, e9, e10, e11, el, e12⟩ := h
  obtain ⟨x0, f0, V0⟩ := vr_Vx e1
  obtain ⟨x1, f1, V1⟩ := vr_Vx e5
  obtain ⟨x2, f2, V2⟩ := vr_Vx e6
  obtain ⟨x3, f3, V3⟩ := vr_Vx e7
  obtain ⟨x4, f4, V4⟩ := vr_Vx e9
  simp only [badT, not_or, Int.not_lt] at e8 e10
  have g1 : c4 = c4.take (nn k) ++ (x4 ++ c5) := by rw [← f4, List.take_append_drop]
  have g2 : c5 = c5.take (nn v) ++ (0 :: c6) := by rw [← e11, List.take_append_drop]
  have l1 : (c4.take (nn k)).length = nn k := by rw [List.length_take]; unfold nn; omega
  have l2 : (c5.take (nn v)).length = nn v := by rw [List.length_take]; unfold nn; omega
  have l4 : c4.length = nn k + x4.length + c5.length := by
    have := congrArg List.length g1
    simp only [List.length_append, l1] at this
    omega
  have l5 : c5.length = nn v + 1 + c6.length := by
    have h5 := congrArg List.length g2
    simp only [List.length_append, List.length_cons, l2] at h5
    omega
  have k1 := congrArg List.length f1
  have k2 := congrArg List.length f2
  have k3 := congrArg List.length f3
  have k0 := congrArg List.length f0
  have kr := congrArg List.length e4
  simp only [List.length_append, List.length_cons] at k1 k2 k3 k0 kr
  refine ⟨x0, z, x1, t, x2, o, x3, k, c4.take (nn k), x4, v, c5.take (nn v), c6, ?_, V0, V1, V2, V3, V4, ?_, e8.1, l1, e10.1, l2, ?_⟩
  · rw [f0, e4, f1, f2, f3, ← g2, ← g1]
  · rw [l1, l2]; unfold nn at el l4 l5 ⊢; omega
  · rw [e12, l1, l2]
    simp only [Prod.mk.injEq, true_and]
    omega
theorem RF_RM {bs : List Int32} {c : Rc} (h : RF bs c) : RM bs c := by
  obtain ⟨x0, z, x1, t, x2, o, x3, k, T1, x4, v, T2, y, e, V0, V1, V2, V3, V4, hz, hk, l1, hv, l2, ec⟩ := h
  have hn : nn z = 2 + x1.length + x2.length + x3.length + T1.length + x4.length + T2.length := by unfold nn; omega
  refine ⟨z, 0 :: (x1 ++ (x2 ++ (x3 ++ (T1 ++ (x4 ++ (T2 ++ (0 :: y))))))), _, t, _, o, _, k, _, v, T2 ++ (0 :: y), y, by rw [e]; exact V0.2 _, by omega, ?_, rfl, V1.2 _, V2.2 _, V3.2 _, ?_, ?_, ?_, ?_, ?_, ?_⟩
  · simp only [List.length_append, List.length_cons]; omega
  · simp only [badT, List.length_append, List.length_cons]; unfold nn at l1; omega
  · rw [List.drop_left' l1]; exact V4.2 _
  · simp only [badT, List.length_append, List.length_cons]; unfold nn at l2; omega
  · rw [List.drop_left' l2]
  · simp only [List.length_append, List.length_cons]; omega
  · rw [ec]
    simp only [Prod.mk.injEq, true_and, e, List.length_append, List.length_cons]
    omega
theorem RF_fun {bs : List Int32} {c d : Rc} (h : RF bs c) (k : RF bs d) : c = d := RD_fun (RF_RD h) (RF_RD k)
def rT (c : Rc) : Int64 := c.1
def rO (c : Rc) : Int64 := c.2.1
def rK (c : Rc) : Int64 := c.2.2.1
def rKa (c : Rc) : Nat := c.2.2.2.1
def rV (c : Rc) : Int64 := c.2.2.2.2.1
def rVa (c : Rc) : Nat := c.2.2.2.2.2.1
def rC (c : Rc) : Nat := c.2.2.2.2.2.2
theorem RF_dims {bs : List Int32} {c : Rc} (h : RF bs c) : rC c ≤ bs.length ∧ 7 ≤ rC c ∧ -1 ≤ (rK c).toInt ∧ -1 ≤ (rV c).toInt ∧ rKa c + (rK c).toInt.toNat ≤ rC c ∧ rVa c + (rV c).toInt.toNat ≤ rC c := by
  obtain ⟨x0, z, x1, t, x2, o, x3, k, T1, x4, v, T2, y, e, V0, V1, V2, V3, V4, hz, hk, l1, hv, l2, ec⟩ := h
  have h0 := V0.1
  have h1 := V1.1
  have h2 := V2.1
  have h3 := V3.1
  have h4 := V4.1
  unfold nn at l1 l2
  rw [ec, e]
  simp only [rC, rK, rV, rKa, rVa, List.length_append, List.length_cons]
  omega
theorem RF_pre {bs : List Int32} {c : Rc} (h : RF bs c) (w : List Int32) : RF (bs.take (rC c) ++ w) c := by
  obtain ⟨x0, z, x1, t, x2, o, x3, k, T1, x4, v, T2, y, e, V0, V1, V2, V3, V4, hz, hk, l1, hv, l2, ec⟩ := h
  refine ⟨x0, z, x1, t, x2, o, x3, k, T1, x4, v, T2, w, ?_, V0, V1, V2, V3, V4, hz, hk, l1, hv, l2, ec⟩
  have e' : bs = (x0 ++ (0 :: (x1 ++ (x2 ++ (x3 ++ (T1 ++ (x4 ++ (T2 ++ [0])))))))) ++ y := by rw [e]; simp
  rw [e', List.take_left']
  · simp
  · rw [ec]; simp only [rC, List.length_append, List.length_cons, List.length_nil]; omega
theorem RF_more {bs : List Int32} {c : Rc} (h : RF bs c) (w : List Int32) : RF (bs ++ w) c := by
  have := RF_pre h (bs.drop (rC c) ++ w)
  rwa [← List.append_assoc, List.take_append_drop] at this
