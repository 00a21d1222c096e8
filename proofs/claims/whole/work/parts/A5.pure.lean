/-! trim, spoil -/
theorem Lie_tk {f : Nat → Int32} {tp : List Int32} {a : Nat} (h : Lie f a tp) (n : Nat) : Lie f a (tp.take n) := Lie_take h n
theorem c_trim {Y : Ly} {q : Nat → Nat → Nat} {nL W nB : Nat} {M : Mm} {tp : List Int32} {v : Int32} {Kn : Int32 → Mm → Prop} {Xn : String → Mm → Prop} (hC : SC Y q nL W nB) (hT : TpC q M tp) (hI : TpI tp) (h0 : ¬ (0 ≤ v ∧ v ≤ nI tp.length) → Xn iAE M)
    (h : 0 ≤ v ∧ v ≤ nI tp.length → ∀ M', Ec q PcT M M' → TpC q M' (tp.take (tp.length - v.toNatClampNeg)) → Kn (nI (tp.length - v.toNatClampNeg)) M') : f_X11_trim Y (q 0 0) v M Kn Xn := by
  have hl := hI.1
  unfold f_X11_trim
  refine ⟨sk_0_0 hC, s_within (lo := 0) (hi := nI tp.length) rfl (by rw [hT.1]) (fun g => ⟨fun _ => ?_, fun z => absurd z (by decide)⟩) (fun g => ⟨fun z => absurd rfl z, fun _ => h0 g⟩)⟩
  intro M5 e5
  obtain ⟨n, hn, rfl⟩ := nI_of (Int32.not_lt.mpr g.1)
  have hle : n ≤ tp.length := (nI_cmp hn (by omega)).mp g.2
  have hg := h g
  rw [nI_clamp hn] at hg
  rw [hT.1, pk_sub hle] at e5
  have e2 : mI M5 (q 0 0) 2 = nI (tp.length - n) := by rw [e5, mI_sI_self]; exact m1_at _ _ _
  rw [e2]
  refine hg M5 (Ec_sI hC e5 ⟨rfl, Or.inl ⟨rfl, rfl⟩⟩) ⟨by rw [e2, List.length_take, Nat.min_eq_left (by omega)], ?_⟩
  rw [e5, I_ne hC _ _ (by decide)]
  exact Lie_tk hT.2 _
theorem m_trim {Y : Ly} {q : Nat → Nat → Nat} {nL W nB : Nat} {M : Mm} {tp : List Int32} {v : Int32} {Kn : Int32 → Mm → Prop} (hC : SC Y q nL W nB) (hT : TpM q M tp) (hI : TpI tp) (h0 : ¬ (0 ≤ v ∧ v ≤ nI tp.length) → Kn 0 (cd q M 1))
    (h : 0 ≤ v ∧ v ≤ nI tp.length → ∀ M', Ec q PmT M M' → mI M' (q 20 0) 0 = 0 → TpM q M' (tp.take (tp.length - v.toNatClampNeg)) → Kn (nI (tp.length - v.toNatClampNeg)) M') : f_X12_trim Y (q 20 0) v M Kn := by
  have hl := hI.1
  have no : ¬ (0 ≤ v ∧ v ≤ nI tp.length) → f_X12_trim_18 Y (q 20 0) v M Kn 1 := by
    intro g
    unfold f_X12_trim_18
    refine ⟨sk_20_0 hC, fun M3 e3 => ?_⟩
    have e3 : M3 = cd q M 1 := e3
    subst e3
    exact ⟨fun z => by rw [cd_0] at z; exact absurd z (by decide), fun _ => h0 g⟩
  unfold f_X12_trim f_X12_trim_13
  refine ⟨fun g => no (fun z => absurd g (Int32.not_lt.mpr z.1)), fun g => ⟨sk_20_0 hC, ?_⟩⟩
  rw [hT.1]
  refine ⟨fun g2 => ?_, fun g2 => no (fun z => g2 z.2)⟩
  have gg : 0 ≤ v ∧ v ≤ nI tp.length := ⟨Int32.not_lt.mp g, g2⟩
  have hg := h gg
  obtain ⟨n, hn, rfl⟩ := nI_of g
  have hle : n ≤ tp.length := (nI_cmp hn (by omega)).mp g2
  rw [nI_clamp hn] at hg
  unfold f_X12_trim_18
  refine ⟨sk_20_0 hC, fun M3 e3 => ?_⟩
  have e3 : M3 = cd q M 0 := e3
  subst e3
  refine ⟨fun _ M5 e5 => ?_, fun z => absurd (by rw [cd_0]; decide) z⟩
  have hT0 := cd_T hC hT 0
  rw [hT0.1, pk_sub hle] at e5
  have e2 : mI M5 (q 20 0) 11 = nI (tp.length - n) := by rw [e5, mI_sI_self]; exact m1_at _ _ _
  rw [e2]
  refine hg M5 (Ec_trans (cd_Ec hC 0 ⟨rfl, Or.inl ⟨rfl, Or.inl rfl⟩⟩) (Ec_sI hC e5 ⟨rfl, Or.inl ⟨rfl, Or.inr rfl⟩⟩)) ?_ ⟨by rw [e2, List.length_take, Nat.min_eq_left (by omega)], ?_⟩
  · rw [e5, mI_sI_self, m1_nat _ _ (by decide)]; exact cd_0 _ _ _
  · rw [e5, I_ne hC _ _ (by decide), m8_take]
    exact Lie_tk hT0.2 _
def spB (x v : Int32) : Int32 := (x ^^^ v.toInt8.toInt32).toInt8.toInt32
def spT (tp : List Int32) (i : Nat) (v : Int32) : List Int32 := tp.set i (spB (tp.getD i 0) v)
theorem i8_i8 (x : Int32) : x.toInt8.toInt32.toInt8.toInt32 = x.toInt8.toInt32 := by
  rw [Int8.toInt8_toInt32]
theorem and_xor (x y z : Int32) : (x ^^^ y) &&& z = (x &&& z) ^^^ (y &&& z) := by
  rw [← Int32.toBitVec_inj]
  simp only [Int32.toBitVec_and, Int32.toBitVec_xor]
  apply BitVec.eq_of_getLsbD_eq
  intro i hi
  simp only [BitVec.getLsbD_and, BitVec.getLsbD_xor]
  cases x.toBitVec.getLsbD i <;> cases y.toBitVec.getLsbD i <;> cases z.toBitVec.getLsbD i <;> rfl
theorem n255 : ∀ n, n < 256 → nI n &&& 255 = nI n := by decide +kernel
theorem spB_255 {x v : Int32} (h : 0 ≤ v ∧ v ≤ 255) : spB x v &&& 255 = (x &&& 255) ^^^ v := by
  obtain ⟨n, hn, rfl⟩ := nI_of (Int32.not_lt.mpr h.1)
  have hle : n ≤ 255 := (nI_cmp (b := 255) hn (by omega)).mp h.2
  unfold spB
  rw [b255, and_xor, b255, n255 n (by omega)]
theorem Lie_set {f : Nat → Int32} {tp : List Int32} {i : Nat} {v : Int32} (h : Lie f 0 tp) : Lie (m1 f i v) 0 (tp.set i v) := by
  refine Lie_of (fun j hj => ?_)
  rw [List.length_set] at hj
  have := Lie_get h hj
  rw [Nat.zero_add] at this ⊢
  rw [List.getD_eq_getElem?_getD, List.getElem?_set]
  by_cases e : i = j
  · subst e; rw [m1_at, if_pos rfl, if_pos hj]; rfl
  · rw [m1_nat _ _ (fun z => e z.symm), if_neg e, this, List.getD_eq_getElem?_getD]
def SpO (tp : List Int32) (i v : Int32) : Prop := (0 ≤ i ∧ i ≤ nI tp.length - 1) ∧ (0 ≤ v ∧ v ≤ 255)
theorem sp_i {tp : List Int32} {i : Int32} (hl : tp.length ≤ 16384) (h : 0 ≤ i ∧ i ≤ nI tp.length - 1) : ∃ n, n < tp.length ∧ i = nI n := by
  obtain ⟨n, hn, rfl⟩ := nI_of (Int32.not_lt.mpr h.1)
  rcases Nat.eq_zero_or_pos tp.length with z | z
  · rw [z] at h
    have := Int32.le_trans h.1 h.2
    exact absurd this (by decide)
  · have e : nI tp.length - 1 = nI (tp.length - 1) := pk_sub (b := 1) z
    rw [e, nI_cmp hn (by omega)] at h
    exact ⟨n, by omega, rfl⟩
theorem c_spoil {Y : Ly} {q : Nat → Nat → Nat} {nL W nB : Nat} {M : Mm} {tp : List Int32} {i v : Int32} {Kn : Int32 → Mm → Prop} {Xn : String → Mm → Prop} (hC : SC Y q nL W nB) (hR : SR q nL (mR M)) (hT : TpC q M tp) (hI : TpI tp) (h0 : ¬ SpO tp i v → Xn iAE M)
    (h : SpO tp i v → ∀ M', Ec q PcT M M' → TpC q M' (spT tp i.toNatClampNeg v) → Kn (spB (tp.getD i.toNatClampNeg 0) v &&& 255) M') : f_X11_spoil Y (q 0 0) i v M Kn Xn := by
  have hl := hI.1
  have n1 := sn_0_1 hC
  unfold f_X11_spoil f_X11_spoil_32
  have no : ¬ SpO tp i v → f_X11_spoil_33 Y (q 0 0) i v Kn Xn 0 M := fun g => ⟨fun z => absurd rfl z, fun _ => h0 g⟩
  refine ⟨sk_0_0 hC, s_within (lo := 0) (hi := nI tp.length - 1) rfl (by rw [hT.1]) (fun g => ⟨fun z => absurd z (by decide), fun _ => ?_⟩) (fun g => ⟨fun _ => no (fun z => g z.1), fun z => absurd rfl z⟩)⟩
  refine s_within (lo := 0) (hi := 255) rfl rfl (fun g2 => ⟨fun z => absurd z (by decide), fun _ => ?_⟩) (fun g2 => ⟨fun _ => no (fun z => g2 z.2), fun z => absurd rfl z⟩)
  have hg := h ⟨g, g2⟩
  obtain ⟨n, hn, rfl⟩ := sp_i hl g
  rw [nI_clamp (by omega)] at hg
  have hin : vp_in (nI n) (yN Y (q 0 1)) := by rw [n1]; exact vp_in_nI (by omega) (by decide)
  unfold f_X11_spoil_33
  refine ⟨fun _ => ?_, fun z => absurd z (by decide)⟩
  refine ⟨_, sr_0_0_1 hR, sk_0_1 hC, hin, hin, fun M11 e11 => ⟨_, by rw [e11]; exact sr_0_0_1 hR, sk_0_1 hC, hin, ?_⟩⟩
  rw [nI_clamp (by omega)] at e11 ⊢
  have ht := Lie_get hT.2 hn
  rw [Nat.zero_add] at ht
  rw [ht, i8_i8] at e11
  have e1 : mI M11 (q 0 1) = m1 (mI M (q 0 1)) n (spB (tp.getD n 0) v) := by rw [e11, mI_sI_self]; rfl
  rw [e1, m1_at]
  refine hg M11 (Ec_sIr hC e11 (fun j => ⟨rfl, Or.inr rfl⟩)) ⟨?_, by rw [e1]; exact Lie_set hT.2⟩
  rw [e11, I_ne hC _ _ (by decide), hT.1]; unfold spT; rw [List.length_set]
theorem m_spoil {Y : Ly} {q : Nat → Nat → Nat} {nL W nB : Nat} {M : Mm} {tp : List Int32} {i v : Int32} {Kn : Int32 → Mm → Prop} (hC : SC Y q nL W nB) (hM : SM q (mR M)) (hT : TpM q M tp) (hI : TpI tp) (h0 : ¬ SpO tp i v → Kn 0 (cd q M 1))
    (h : SpO tp i v → ∀ M', Ec q PmT M M' → mI M' (q 20 0) 0 = 0 → TpM q M' (spT tp i.toNatClampNeg v) → Kn (spB (tp.getD i.toNatClampNeg 0) v &&& 255) M') : f_X12_spoil Y (q 20 0) i v M Kn := by
  have hl := hI.1
  have n1 := sn_20_11 hC
  have no : ¬ SpO tp i v → f_X12_spoil_29 Y (q 20 0) i v M Kn 1 := by
    intro g
    unfold f_X12_spoil_29
    refine ⟨sk_20_0 hC, fun M3 e3 => ?_⟩
    have e3 : M3 = cd q M 1 := e3
    subst e3
    exact ⟨fun z => by rw [cd_0] at z; exact absurd z (by decide), fun _ => h0 g⟩
  have lt : ∀ n, n < 2 ^ 31 → (nI tp.length ≤ nI n ↔ ¬ nI n ≤ nI tp.length - 1) := by
    intro n hn
    rw [nI_cmp (by omega) hn]
    rcases Nat.eq_zero_or_pos tp.length with z | z
    · rw [z]
      refine ⟨fun _ c => ?_, fun _ => Nat.zero_le _⟩
      have := Int32.le_trans (nI_ge0 hn) c
      exact absurd this (by decide)
    · have e : nI tp.length - 1 = nI (tp.length - 1) := pk_sub (b := 1) z
      rw [e, nI_cmp hn (by omega)]; omega
  unfold f_X12_spoil f_X12_spoil_24
  refine ⟨fun g => no (fun z => absurd g (Int32.not_lt.mpr z.1.1)), fun g => ⟨sk_20_0 hC, ?_⟩⟩
  obtain ⟨n, hn, rfl⟩ := nI_of g
  rw [hT.1]
  refine ⟨fun g1 => no (fun z => (lt n hn).mp g1 z.1.2), fun g1 => ⟨fun g2 => no (fun z => absurd g2 (Int32.not_lt.mpr z.2.1)), fun g2 => ⟨fun g3 => ?_, fun g3 => no (fun z => g3 z.2.2)⟩⟩⟩
  have hlt : n < tp.length := by rw [nI_cmp (by omega) hn] at g1; omega
  have hv : 0 ≤ v ∧ v ≤ 255 := ⟨Int32.not_lt.mp g2, g3⟩
  have hg := h ⟨⟨nI_ge0 hn, Decidable.byContradiction (fun z => g1 ((lt n hn).mpr z))⟩, hv⟩
  rw [nI_clamp hn] at hg
  have hin : vp_in (nI n) (yN Y (q 20 11)) := by rw [n1]; exact vp_in_nI (by omega) (by decide)
  unfold f_X12_spoil_29
  refine ⟨sk_20_0 hC, fun M3 e3 => ?_⟩
  have e3 : M3 = cd q M 0 := e3
  subst e3
  have hT0 := cd_T hC hT 0
  refine ⟨fun _ => ?_, fun z => absurd (by rw [cd_0]; decide) z⟩
  refine ⟨_, sm_10 hM, sk_20_11 hC, hin, hin, fun M9 e9 => ⟨_, by rw [e9]; exact sm_10 hM, sk_20_11 hC, hin, ?_⟩⟩
  rw [nI_clamp hn] at e9 ⊢
  have ht := Lie_get hT0.2 (by rw [m8_len]; exact hlt)
  have hx : (m8 tp).getD n 0 = tp.getD n 0 &&& 255 := by
    unfold m8
    rw [List.getD_eq_getElem?_getD, List.getElem?_map, List.getD_eq_getElem?_getD, List.getElem?_eq_getElem hlt]; rfl
  rw [Nat.zero_add, hx] at ht
  rw [ht, ← spB_255 hv] at e9
  have e1 : mI M9 (q 20 11) = m1 (mI (cd q M 0) (q 20 11)) n (spB (tp.getD n 0) v &&& 255) := by rw [e9, mI_sI_self]
  rw [e1, m1_at]
  refine hg M9 (Ec_trans (cd_Ec hC 0 ⟨rfl, Or.inl ⟨rfl, Or.inl rfl⟩⟩) (Ec_sIr hC e9 (fun j => ⟨rfl, Or.inr rfl⟩))) ?_ ⟨?_, ?_⟩
  · rw [e9, I_ne hC _ _ (by decide)]; exact cd_0 _ _ _
  · rw [e9, I_ne hC _ _ (by decide), hT0.1]; unfold spT; rw [List.length_set]
  · rw [e1]
    have := Lie_set (i := n) (v := spB (tp.getD n 0) v &&& 255) hT0.2
    unfold spT m8 at *
    rw [List.map_set]; exact this
