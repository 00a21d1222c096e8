/-! records into the draft -/
theorem c_record {Y : Ly} {q : Nat → Nat → Nat} {nL W nB : Nat} {M : Mm} {D : Dr} {v1 : Int32} {a : Int64} {b : Int32} {c : Int64} {d e : Int32} {Kn : Int32 → Mm → Prop} {Xn : String → Mm → Prop} (hC : SC Y q nL W nB) (hR : SR q nL (mR M)) (hD : DrC q M D) (hI : DrI D) (h0 : ¬ RcO v1 b d e → Xn iAE M) (h2 : RcO v1 b d e → ¬ RcR D a b c d e v1.toNatClampNeg → Xn iSE M)
    (h : RcO v1 b d e → RcR D a b c d e v1.toNatClampNeg → ∀ M', Ec q PcD M M' → DrC q M' (recD D a b c d e v1.toNatClampNeg) → Kn (nI (dN D + v1.toNatClampNeg)) M') : f_X11_record Y (q 0 0) v1 a b c d e M Kn Xn := by
  unfold f_X11_record f_X11_record_31
  have n32 : ¬ RcO v1 b d e → f_X11_record_32 Y (q 0 0) v1 a b c d e Kn Xn 0 M := fun g => ⟨fun z => absurd rfl z, fun _ => h0 g⟩
  have n68 : ¬ RcO v1 b d e → f_X11_record_68 Y (q 0 0) v1 a b c d e Kn Xn 0 M := fun g => ⟨fun z => absurd rfl z, fun _ => h0 g⟩
  refine s_within (lo := 1) (hi := 100) rfl rfl (fun g1 => ⟨fun z => absurd z (by decide), fun _ => ?_⟩) (fun g => ⟨fun _ => n32 (fun z => g z.1), fun z => absurd rfl z⟩)
  refine s_within (lo := -1) (hi := 8) rfl rfl (fun g2 => ⟨fun z => absurd z (by decide), fun _ => ?_⟩) (fun g => ⟨fun _ => n32 (fun z => g z.2.1), fun z => absurd rfl z⟩)
  unfold f_X11_record_32 f_X11_record_67
  refine ⟨fun _ => ?_, fun z => absurd z (by decide)⟩
  refine s_within (lo := -1) (hi := 300) rfl rfl (fun g3 => ⟨fun z => absurd z (by decide), fun _ => ?_⟩) (fun g => ⟨fun _ => n68 (fun z => g z.2.2.1), fun z => absurd rfl z⟩)
  refine s_within (lo := 0) (hi := 1000000) rfl rfl (fun g4 => ⟨fun z => absurd z (by decide), fun _ => ?_⟩) (fun g => ⟨fun _ => n68 (fun z => g z.2.2.2), fun z => absurd rfl z⟩)
  have hO : RcO v1 b d e := ⟨g1, g2, g3, g4⟩
  have h2 := h2 hO
  have h := h hO
  obtain ⟨N, lt, hN1, hN, rfl, hlt, rfl, hr⟩ := Rc_n hO
  rw [nI_clamp (by omega)] at h2 h
  unfold f_X11_record_68
  refine ⟨fun _ => ⟨sk_0_0 hC, _, sr_0_0_3 hR, sk_0_2 hC, ?_⟩, fun z => absurd z (by decide)⟩
  refine c_hasRoom (a := a) (c := c) hC hD hI hN hr (fun g => ⟨fun _ => ?_, fun z => absurd z (by decide)⟩) (fun g => ⟨fun z => absurd rfl z, fun _ => h2 g⟩)
  have hDI := DrI_rec hI hr g.1 g.2
  refine LOOP2_inv (fun x17 M18 => ∃ i, i ≤ N ∧ x17 = nI i ∧ Ec q PcD M M18 ∧ DrC q M18 (recD D a b c d (nI lt) i)) (fun x17 _ => N - x17.toNatClampNeg) ?_ _ _ ⟨0, by omega, rfl, Ec_refl _ _ _, hD⟩
  rintro x17 M18 again ⟨i, hi, rfl, E, hDi⟩ hag
  have hR8 : SR q nL (mR M18) := by rw [E.2]; exact hR
  unfold L_X11_record_91
  refine pk_le N i (fun g1 => ?_) (fun g1 => ?_)
  · have ei : i = N := by omega
    subst ei
    refine ⟨_, sr_0_0_3 hR8, sk_0_2 hC, ?_⟩
    rw [hDi.2.1, dN_rec]
    exact h g M18 E hDi
  · refine ⟨_, sr_0_0_3 hR8, sk_0_2 hC, ?_⟩
    obtain ⟨o1, o2, o3, o4, o5⟩ := rc_ok (dN D + i) (hr i (by omega))
    obtain ⟨p1, p2, p3, p4⟩ := hDi
    have hrn := dN_rec D a b c d (nI lt) i
    have hnx := (hDI (i + 1) (by omega)).2.1
    rw [dY_rec, List.length_append] at hnx
    rw [hrn] at p2
    have gN := g.1
    refine w_add (sk_0_2 hC) (sk_0_3 hC) (q_ne hC (by decide)) (sr_0_2_0 hR8) p1 p2 (by omega) p3 o1 o2 o3 (by omega) (by rw [sn_0_3 hC]; exact hnx) (by rw [sn_0_3 hC]; decide) ?_
    intro x25 e25
    rw [nI_1] at e25
    subst e25
    refine hag _ _ ⟨i + 1, by omega, rfl, ?_, ?_, ?_, ?_, ?_⟩ ?_
    · refine Ec_trans E (Ec_trans (Ec_sIr hC (a := 0) (b := 3) rfl (fun j => ⟨rfl, Or.inr rfl⟩)) (Ec_sIr hC (a := 0) (b := 2) rfl (fun j => ⟨rfl, Or.inl rfl⟩)))
    · rw [mI_sI_self, m1_nat _ _ (by decide), m1_nat _ _ (by decide), m1_at, dY_rec, List.length_append]
    · rw [mI_sI_self, m1_nat _ _ (by decide), m1_at, dN_rec]; rfl
    · rw [mI_sI_self, m1_at]
      show _ = gdL (dT (add1 _ _ _ _ _ _)) (dN (add1 _ _ _ _ _ _))
      rw [gd_add]
    · rw [I_ne hC _ _ (by decide), mI_sI_self, dY_rec]
      exact Lie_ext p4
    · rw [nI_clamp (by omega), nI_clamp (by omega)]; omega
theorem drOK_of {q : Nat → Nat → Nat} {M : Mm} {D : Dr} (h : DrM q M D) (hI : DrI D) : drOK (mI M (q 20 15)) (mI M (q 20 17)) (mI M (q 20 18)) (dN D) := by
  intro k hk
  obtain ⟨_, e2, _, e4, e5⟩ := h.2 k hk
  obtain ⟨o1, o2, o3, o4, _⟩ := rc_ok k (hI.2.2 k hk)
  rw [e2, e4, e5]
  exact ⟨o1, o2, o3, o4⟩
theorem dY_of {q : Nat → Nat → Nat} {M : Mm} {D : Dr} (h : DrM q M D) : dB (mJ M (q 20 14)) (mI M (q 20 15)) (mJ M (q 20 16)) (mI M (q 20 17)) (mI M (q 20 18)) (dN D) = dY D := dB_congr h.2
theorem m_weight {Y : Ly} {q : Nat → Nat → Nat} {nL W nB : Nat} {M : Mm} {D : Dr} {Kn : Int32 → Mm → Prop} (hC : SC Y q nL W nB) (hM : SM q (mR M)) (hD : DrM q M D) (hn : dN D ≤ 1000) (hI : ∀ k, k < dN D → rcO (dC D k) (dW D k) (dT D k)) (h : Kn (nI (dY D).length) M) : f_X12_weight Y (q 20 0) M Kn := by
  refine w_weight (K := mJ M (q 20 14)) (V := mJ M (q 20 16)) (sk_20_0 hC) (sm_14 hM) (sm_16 hM) (sm_17 hM) (sk_20_15 hC) (sk_20_17 hC) (sk_20_18 hC) (sn_20_15 hC) (sn_20_17 hC) (sn_20_18 hC) hD.1 hn ?_ ?_
  · intro k hk
    obtain ⟨_, e2, _, e4, e5⟩ := hD.2 k hk
    obtain ⟨o1, o2, o3, o4, _⟩ := rc_ok k (hI k hk)
    rw [e2, e4, e5]
    exact ⟨o1, o2, o3, o4⟩
  · rw [dY_of hD]; exact h
theorem rcO_rec {D : Dr} {a : Int64} {b : Int32} {c : Int64} {d e : Int32} {N : Nat} (hI : ∀ k, k < dN D → rcO (dC D k) (dW D k) (dT D k)) (h : ∀ i, i < N → rcO b d (e + nI i)) : ∀ i, i ≤ N → ∀ k, k < dN D + i → rcO (dC (recD D a b c d e i) k) (dW (recD D a b c d e i) k) (dT (recD D a b c d e i) k)
  | 0, _ => hI
  | i + 1, hi => by
    intro k hk
    show rcO (m1 (dC (recD D a b c d e i)) (dN (recD D a b c d e i)) b k) (m1 (dW (recD D a b c d e i)) (dN (recD D a b c d e i)) d k) (m1 (dT (recD D a b c d e i)) (dN (recD D a b c d e i)) (e + nI i) k)
    by_cases z : k = dN D + i
    · rw [z, dN_rec, m1_at, m1_at, m1_at]; exact h i (by omega)
    · have z2 : k ≠ dN (recD D a b c d e i) := by rw [dN_rec]; exact z
      rw [m1_nat _ _ z2, m1_nat _ _ z2, m1_nat _ _ z2]
      exact rcO_rec hI h i (by omega) k (by omega)
theorem cd_D {Y : Ly} {q : Nat → Nat → Nat} {nL W nB : Nat} {M : Mm} {D : Dr} (hC : SC Y q nL W nB) (h : DrM q M D) (v : Int32) : DrM q (cd q M v) D := by
  unfold cd
  refine ⟨by rw [mI_sI_self, m1_nat _ _ (by decide)]; exact h.1, fun k hk => ?_⟩
  rw [I_ne hC _ _ (by decide), I_ne hC _ _ (by decide), I_ne hC _ _ (by decide)]
  exact h.2 k hk
theorem m_record {Y : Ly} {q : Nat → Nat → Nat} {nL W nB : Nat} {M : Mm} {D : Dr} {v1 : Int32} {a : Int64} {b : Int32} {c : Int64} {d e : Int32} {Kn : Int32 → Mm → Prop} (hC : SC Y q nL W nB) (hM : SM q (mR M)) (hD : DrM q M D) (hI : DrI D) (h0 : ¬ RcO v1 b d e → Kn 0 (cd q M 1)) (h2 : RcO v1 b d e → ¬ RcR D a b c d e v1.toNatClampNeg → ∀ M', Ec q PmD M M' → mI M' (q 20 0) 0 = 2 → DrM q M' D → Kn 0 M')
    (h : RcO v1 b d e → RcR D a b c d e v1.toNatClampNeg → ∀ M', Ec q PmD M M' → mI M' (q 20 0) 0 = 0 → DrM q M' (recD D a b c d e v1.toNatClampNeg) → Kn (nI (dN D + v1.toNatClampNeg)) M') : f_X12_record Y (q 20 0) v1 a b c d e M Kn := by
  have no : ¬ RcO v1 b d e → f_X12_record_51 Y (q 20 0) v1 a b c d e M Kn := by
    intro g
    unfold f_X12_record_51 f_X12_record_72
    refine ⟨sk_20_0 hC, fun M3 e3 => ?_⟩
    have e3 : M3 = cd q M 1 := e3
    subst e3
    exact ⟨fun z => by rw [cd_0] at z; exact absurd z (by decide), fun _ => h0 g⟩
  unfold f_X12_record
  refine ⟨fun g => no (fun z => absurd (Int32.le_trans (z.1.1) (Int32.le_of_lt (by exact g))) ?_), fun g1 => ⟨fun g => no (fun z => Int32.not_lt.mpr z.1.2 g), fun g2 => ⟨fun g => no (fun z => Int32.not_lt.mpr z.2.1.1 g), fun g3 => ⟨fun g => no (fun z => Int32.not_lt.mpr z.2.1.2 g), fun g4 => ⟨fun g => no (fun z => Int32.not_lt.mpr z.2.2.1.1 g), fun g5 => ⟨fun g => no (fun z => Int32.not_lt.mpr z.2.2.1.2 g), fun g6 => ⟨fun g => no (fun z => Int32.not_lt.mpr z.2.2.2.1 g), fun g7 => ⟨fun g8 => ?_, fun g => no (fun z => g z.2.2.2.2)⟩⟩⟩⟩⟩⟩⟩⟩
  · exact fun _ => Int32.not_lt.mpr z.1.1 g
  have hO : RcO v1 b d e := ⟨⟨Int32.not_lt.mp g1, Int32.not_lt.mp g2⟩, ⟨Int32.not_lt.mp g3, Int32.not_lt.mp g4⟩, ⟨Int32.not_lt.mp g5, Int32.not_lt.mp g6⟩, ⟨Int32.not_lt.mp g7, g8⟩⟩
  have h2 := h2 hO
  have h := h hO
  obtain ⟨N, lt, hN1, hN, rfl, hlt, rfl, hr⟩ := Rc_n hO
  rw [nI_clamp (by omega)] at h2 h
  have hi1 := hI.1
  refine ⟨sk_20_0 hC, ?_⟩
  rw [hD.1, nI_add]
  refine pk_le (dN D + N) 1000 (fun g => ?_) (fun g => ?_)
  · unfold f_X12_record_72
    refine ⟨sk_20_0 hC, fun M3 e3 => ?_⟩
    have e3 : M3 = cd q M 0 := e3
    subst e3
    refine ⟨fun _ x5 e5 => ?_, fun z => absurd (by rw [cd_0]; decide) z⟩
    have hD0 := cd_D hC hD 0
    rw [hD0.1] at e5
    subst e5
    refine LOOP2_inv (fun x6 M7 => ∃ i, i ≤ N ∧ x6 = nI i ∧ Ec q PmD M M7 ∧ mI M7 (q 20 0) 0 = 0 ∧ DrM q M7 (recD D a b c d (nI lt) i)) (fun x6 _ => N - x6.toNatClampNeg) ?_ _ _ ⟨0, by omega, rfl, cd_Ec hC 0 ⟨rfl, Or.inl ⟨rfl, Or.inl rfl⟩⟩, cd_0 _ _ _, hD0⟩
    rintro x6 M7 again ⟨i, hi, rfl, E, z0, hDi⟩ hag
    have hM7 : SM q (mR M7) := by rw [E.2]; exact hM
    have hrn := dN_rec D a b c d (nI lt) i
    unfold L_X12_record_93
    refine pk_le N i (fun g1 => ?_) (fun g1 => ?_)
    · have ei : i = N := by omega
      subst ei
      refine m_weight hC hM7 hDi (by rw [hrn]; exact g) (by rw [hrn]; exact rcO_rec hI.2.2 hr i (Nat.le_refl _)) ?_
      have bl := dY_le (D := D) (a := a) (c := c) hr i hi
      have bI := hI.2.1
      refine pk_le (dY (recD D a b c d (nI lt) i)).length 16000 (fun g2 => ?_) (fun g2 => ?_)
      · rw [hDi.1, hrn]
        exact h ⟨g, g2⟩ M7 E z0 hDi
      · intro M12 e12 M13 e13
        refine h2 (fun z => by have := z.2; omega) M13 (Ec_trans E (Ec_trans (Ec_sI hC e12 ⟨rfl, Or.inl ⟨rfl, Or.inr rfl⟩⟩) (Ec_sI hC e13 ⟨rfl, Or.inl ⟨rfl, Or.inl rfl⟩⟩))) (by rw [e13, mI_sI_self]; exact m1_at _ _ _) ⟨?_, fun k hk => ?_⟩
        · rw [e13, mI_sI_self, m1_nat _ _ (by decide), e12, mI_sI_self]; exact m1_at _ _ _
        · have hh : ∀ c, c ≠ 0 → mI M13 (q 20 c) = mI M7 (q 20 c) := fun c hc => by rw [e13, I_ne hC _ _ (by omega), e12, I_ne hC _ _ (by omega)]
          rw [hh 15 (by decide), hh 17 (by decide), hh 18 (by decide), show mJ M13 = mJ M7 by rw [e13, e12]; rfl]
          obtain ⟨p1, p2, p3, p4, p5⟩ := hDi.2 k (by rw [hrn]; omega)
          have same : ∀ i, dK (recD D a b c d (nI lt) i) k = dK D k ∧ dC (recD D a b c d (nI lt) i) k = dC D k ∧ dV (recD D a b c d (nI lt) i) k = dV D k ∧ dW (recD D a b c d (nI lt) i) k = dW D k ∧ dT (recD D a b c d (nI lt) i) k = dT D k := by
            intro i
            induction i with
            | zero => exact ⟨rfl, rfl, rfl, rfl, rfl⟩
            | succ i ih =>
              have hne : k ≠ dN (recD D a b c d (nI lt) i) := by rw [dN_rec]; omega
              obtain ⟨i1, i2, i3, i4, i5⟩ := ih
              exact ⟨(m1_nat _ _ hne).trans i1, (m1_nat _ _ hne).trans i2, (m1_nat _ _ hne).trans i3, (m1_nat _ _ hne).trans i4, (m1_nat _ _ hne).trans i5⟩
          obtain ⟨s1, s2, s3, s4, s5⟩ := same i
          exact ⟨p1.trans s1, p2.trans s2, p3.trans s3, p4.trans s4, p5.trans s5⟩
    · have ha : mI M7 (q 20 0) 12 = nI (dN D + i) := by rw [hDi.1, hrn]
      have hin : vp_in (nI (dN D + i)) 1000 := vp_in_nI (by omega) (by decide)
      have hcl : (nI (dN D + i)).toNatClampNeg = dN D + i := nI_clamp (by omega)
      refine ⟨_, sm_13 hM7, sk_20_14 hC, by rw [ha, sn_20_14 hC]; exact hin, fun M17 e17 => ?_⟩
      rw [ha, hcl] at e17
      have a17 : mI M17 (q 20 0) 12 = nI (dN D + i) := by rw [e17]; exact ha
      have R17 : mR M17 = mR M7 := by rw [e17]; rfl
      refine ⟨_, by rw [R17]; exact sm_14 hM7, sk_20_15 hC, by rw [a17, sn_20_15 hC]; exact hin, fun M21 e21 => ?_⟩
      rw [a17, hcl] at e21
      have a21 : mI M21 (q 20 0) 12 = nI (dN D + i) := by rw [e21, I_ne hC _ _ (by decide)]; exact a17
      have R21 : mR M21 = mR M7 := by rw [e21]; exact R17
      refine ⟨_, by rw [R21]; exact sm_15 hM7, sk_20_16 hC, by rw [a21, sn_20_16 hC]; exact hin, fun M25 e25 => ?_⟩
      rw [a21, hcl] at e25
      have a25 : mI M25 (q 20 0) 12 = nI (dN D + i) := by rw [e25]; exact a21
      have R25 : mR M25 = mR M7 := by rw [e25]; exact R21
      refine ⟨_, by rw [R25]; exact sm_16 hM7, sk_20_17 hC, by rw [a25, sn_20_17 hC]; exact hin, fun M29 e29 => ?_⟩
      rw [a25, hcl] at e29
      have a29 : mI M29 (q 20 0) 12 = nI (dN D + i) := by rw [e29, I_ne hC _ _ (by decide)]; exact a25
      have R29 : mR M29 = mR M7 := by rw [e29]; exact R25
      refine ⟨_, by rw [R29]; exact sm_17 hM7, sk_20_18 hC, by rw [a29, sn_20_18 hC]; exact hin, fun M33 e33 M34 e34 x35 e35 => ?_⟩
      rw [a29, hcl] at e33
      have a33 : mI M33 (q 20 0) 12 = nI (dN D + i) := by rw [e33, I_ne hC _ _ (by decide)]; exact a29
      rw [a33, nI_1] at e34
      rw [nI_1] at e35
      subst e35
      have j14 : mJ M34 (q 20 14) = m1 (mJ M7 (q 20 14)) (dN D + i) (a + (nI i).toInt64) := by
        rw [e34, e33, e29, e25]
        show mJ (sJ M21 (q 20 16) _) (q 20 14) = _
        rw [J_ne hC _ _ (by decide), e21, e17]
        show mJ (sJ M7 (q 20 14) _) (q 20 14) = _
        rw [mJ_sJ_self]
      have j16 : mJ M34 (q 20 16) = m1 (mJ M7 (q 20 16)) (dN D + i) (c + (nI i).toInt64) := by
        rw [e34, e33, e29, e25]
        show mJ (sJ M21 (q 20 16) _) (q 20 16) = _
        rw [mJ_sJ_self, e21, e17]
        show m1 (mJ (sJ M7 (q 20 14) _) (q 20 16)) _ _ = _
        rw [J_ne hC _ _ (by decide)]
      have i15 : mI M34 (q 20 15) = m1 (mI M7 (q 20 15)) (dN D + i) b := by
        rw [e34, I_ne hC _ _ (by decide), e33, I_ne hC _ _ (by decide), e29, I_ne hC _ _ (by decide), e25]
        show mI M21 (q 20 15) = _
        rw [e21, mI_sI_self, e17]; rfl
      have i17 : mI M34 (q 20 17) = m1 (mI M7 (q 20 17)) (dN D + i) d := by
        rw [e34, I_ne hC _ _ (by decide), e33, I_ne hC _ _ (by decide), e29, mI_sI_self, e25]
        show m1 (mI M21 (q 20 17)) _ _ = _
        rw [e21, I_ne hC _ _ (by decide), e17]; rfl
      have i18 : mI M34 (q 20 18) = m1 (mI M7 (q 20 18)) (dN D + i) (nI lt + nI i) := by
        rw [e34, I_ne hC _ _ (by decide), e33, mI_sI_self, e29, I_ne hC _ _ (by decide), e25]
        show m1 (mI M21 (q 20 18)) _ _ = _
        rw [e21, I_ne hC _ _ (by decide), e17]; rfl
      have E34 : Ec q PmD M7 M34 := Ec_trans (⟨(Ef_sJ hC e17 ⟨rfl, Or.inr (by omega)⟩).1, by rw [e17]; rfl⟩) (Ec_trans (Ec_sIr hC e21 (fun j => ⟨rfl, Or.inr (by omega)⟩)) (Ec_trans (⟨(Ef_sJ hC e25 ⟨rfl, Or.inr (by omega)⟩).1, by rw [e25]; rfl⟩) (Ec_trans (Ec_sIr hC e29 (fun j => ⟨rfl, Or.inr (by omega)⟩)) (Ec_trans (Ec_sIr hC e33 (fun j => ⟨rfl, Or.inr (by omega)⟩)) (Ec_sI hC e34 ⟨rfl, Or.inl ⟨rfl, Or.inr rfl⟩⟩)))))
      refine hag _ _ ⟨i + 1, by omega, rfl, Ec_trans E E34, ?_, ?_, fun k hk => ?_⟩ ?_
      · rw [e34, mI_sI_self, m1_nat _ _ (by decide), e33, I_ne hC _ _ (by decide), e29, I_ne hC _ _ (by decide), e25]
        show mI M21 (q 20 0) 0 = 0
        rw [e21, I_ne hC _ _ (by decide), e17]; exact z0
      · rw [e34, mI_sI_self, m1_at, dN_rec]; rfl
      · rw [j14, j16, i15, i17, i18]
        show _ = m1 (dK (recD D a b c d (nI lt) i)) (dN (recD D a b c d (nI lt) i)) _ k ∧ _ = m1 (dC (recD D a b c d (nI lt) i)) (dN (recD D a b c d (nI lt) i)) _ k ∧ _ = m1 (dV (recD D a b c d (nI lt) i)) (dN (recD D a b c d (nI lt) i)) _ k ∧ _ = m1 (dW (recD D a b c d (nI lt) i)) (dN (recD D a b c d (nI lt) i)) _ k ∧ _ = m1 (dT (recD D a b c d (nI lt) i)) (dN (recD D a b c d (nI lt) i)) _ k
        rw [hrn]
        rw [dN_rec] at hk
        by_cases z : k = dN D + i
        · subst z
          exact ⟨by rw [m1_at, m1_at], by rw [m1_at, m1_at], by rw [m1_at, m1_at], by rw [m1_at, m1_at], by rw [m1_at, m1_at]⟩
        · obtain ⟨p1, p2, p3, p4, p5⟩ := hDi.2 k (by rw [hrn]; omega)
          exact ⟨by rw [m1_nat _ _ z, m1_nat _ _ z]; exact p1, by rw [m1_nat _ _ z, m1_nat _ _ z]; exact p2, by rw [m1_nat _ _ z, m1_nat _ _ z]; exact p3, by rw [m1_nat _ _ z, m1_nat _ _ z]; exact p4, by rw [m1_nat _ _ z, m1_nat _ _ z]; exact p5⟩
      · rw [nI_clamp (by omega), nI_clamp (by omega)]; omega
  · unfold f_X12_record_72
    refine ⟨sk_20_0 hC, fun M3 e3 => ?_⟩
    have e3 : M3 = cd q M 2 := e3
    subst e3
    refine ⟨fun z => by rw [cd_0] at z; exact absurd z (by decide), fun _ => ?_⟩
    exact h2 (fun z => by have := z.1; omega) _ (cd_Ec hC 2 ⟨rfl, Or.inl ⟨rfl, Or.inl rfl⟩⟩) (cd_0 _ _ _) (cd_D hC hD 2)
