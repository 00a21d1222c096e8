/-! the model seals -/
def gX (ft : Int64) (L : Nat → Int32) : Nat → Int64
  | 0 => 0
  | k + 1 => if ft + (L k).toInt64 ≤ gX ft L k then gX ft L k else ft + (L k).toInt64
theorem gX_ok {f : Nat} {L : Nat → Int32} (hf : f ≤ 562949953421312) : ∀ k, (∀ i, i < k → ∃ m, m ≤ 1000100 ∧ L i = nI m) → ∃ g, g ≤ 1000100 ∧ gdL L k = nI g ∧ gX (lN f) L k = if k = 0 then 0 else lN (f + g)
  | 0, _ => ⟨0, Nat.zero_le _, rfl, rfl⟩
  | k + 1, h => by
    obtain ⟨g, hg, e1, e2⟩ := gX_ok hf k (fun i hi => h i (by omega))
    obtain ⟨m, hm, em⟩ := h k (by omega)
    have hg1 : gdL L (k + 1) = if nI g < nI m then nI m else nI g := by simp only [gdL]; rw [e1, em]
    have hx1 : gX (lN f) L (k + 1) = if lN (f + m) ≤ gX (lN f) L k then gX (lN f) L k else lN (f + m) := by simp only [gX]; rw [em, nI_l (by omega), lN_add]
    rw [hg1, hx1, e2]
    by_cases z : k = 0
    · subst z
      have e0 : nI g = nI 0 := e1.symm
      rw [e0]
      refine ⟨m, hm, ?_, ?_⟩
      · split
        · rfl
        · rename_i c
          rw [nI_ltI (by omega) (by omega)] at c
          rw [show m = 0 by omega]
      · rw [if_pos rfl, if_neg (show ¬ 0 + 1 = 0 by omega)]
        split
        · rename_i c
          have c' : lN (f + m) ≤ lN 0 := c
          rw [pk_lLE (by omega) (by omega)] at c'
          rw [show f + m = 0 by omega]; rfl
        · rfl
    · rw [if_neg z]
      by_cases y : m ≤ g
      · refine ⟨g, hg, ?_, ?_⟩
        · exact if_neg (by rw [nI_ltI (by omega) (by omega)]; omega)
        · rw [if_neg (show ¬ k + 1 = 0 by omega)]; exact if_pos (by rw [pk_lLE (by omega) (by omega)]; omega)
      · refine ⟨m, hm, ?_, ?_⟩
        · exact if_pos (by rw [nI_ltI (by omega) (by omega)]; omega)
        · rw [if_neg (show ¬ k + 1 = 0 by omega)]; exact if_neg (by rw [pk_lLE (by omega) (by omega)]; omega)
theorem FtO_n {ft : Int64} (h : FtO ft) : ∃ f, f ≤ 562949953421312 ∧ ft = lN f := by
  obtain ⟨h1, h2⟩ := h
  have a := (Int64.le_iff_toInt_le).mp h1
  have b := (Int64.le_iff_toInt_le).mp h2
  rw [show (0 : Int64).toInt = 0 by decide] at a
  rw [show (562949953421312 : Int64).toInt = 562949953421312 by decide] at b
  refine ⟨ft.toInt.toNat, by omega, ?_⟩
  rw [← Int64.toInt_inj]
  have : (lN ft.toInt.toNat).toInt = (ft.toInt.toNat : Int) := by
    unfold lN
    exact Int64.toInt_ofNat_of_lt (by omega)
  omega
theorem gX_gt {ft : Int64} {D : Dr} (h : FtO ft) (hI : DrI D) : gX ft (dT D) (dN D) = gtD ft D := by
  obtain ⟨f, hf, rfl⟩ := FtO_n h
  obtain ⟨g, hg, e1, e2⟩ := gX_ok (L := dT D) hf (dN D) (fun i hi => (hI.2.2 i hi).2.2)
  rw [e2]; unfold gtD
  split
  · rfl
  · rw [e1, nI_l (by omega), lN_add]
theorem gX_congr {ft : Int64} {L L' : Nat → Int32} : ∀ {n : Nat}, (∀ k, k < n → L k = L' k) → gX ft L n = gX ft L' n
  | 0, _ => rfl
  | n + 1, h => by
    simp only [gX]
    rw [gX_congr (n := n) (fun k hk => h k (by omega)), h n (by omega)]
def PmU : Nat → Nat → Nat → Prop := fun a b j => a = 20 ∧ ((b = 0 ∧ j = 11) ∨ b = 11)
theorem m_tPut {Y : Ly} {q : Nat → Nat → Nat} {nL W nB : Nat} {M : Mm} {D : Dr} {tp : List Int32} {n : Nat} {v : Int64} {Kn : Mm → Prop} (hC : SC Y q nL W nB) (hM : SM q (mR M)) (hT : TpM q M tp) (hD : DrM q M D) (hn : tp.length + n ≤ 16384) (h8 : n ≤ 8) (h : ∀ M', Ec q PmU M M' → TpM q M' (tp ++ pb v n) → DrM q M' D → Kn M') : f_X12_put Y (q 20 0) v (nI n) M Kn := by
  refine w_mput (sk_20_0 hC) (sm_10 hM) (sk_20_11 hC) (q_ne hC (by decide)) hT.1 (by rw [sn_20_11 hC]; exact hn) (by rw [sn_20_11 hC]; decide) h8 ?_
  have hne : q 20 11 ≠ q 20 0 := q_ne hC (by decide)
  have e0 : mI (mq M (q 20 0) (q 20 11) (pb v n) tp.length) (q 20 0) = m1 (mI M (q 20 0)) 11 (nI (tp.length + (pb v n).length)) := mq_v _ _ _ _ _
  have E : Ec q PmU M (mq M (q 20 0) (q 20 11) (pb v n) tp.length) := by
    refine ⟨fun a b j np => ⟨?_, rfl⟩, rfl⟩
    by_cases z : a = 20 ∧ b = 0
    · obtain ⟨rfl, rfl⟩ := z
      rw [e0]
      exact m1_nat _ _ (fun y => np ⟨rfl, Or.inl ⟨rfl, y⟩⟩)
    · rw [mq_n _ _ _ (q_ne hC z) (q_ne hC (fun y => np ⟨y.1, Or.inr y.2⟩))]
  refine h _ E ⟨by rw [e0, m1_at, List.length_append], ?_⟩ ?_
  · rw [mq_t _ _ _ hne]
    exact m8_ext hT.2
  · refine ⟨by rw [e0, m1_nat _ _ (by decide)]; exact hD.1, fun k hk => ?_⟩
    have nb : ∀ c, c ≠ 0 → c ≠ 11 → mI (mq M (q 20 0) (q 20 11) (pb v n) tp.length) (q 20 c) = mI M (q 20 c) := fun c h0 h1 => mq_n _ _ _ (q_ne hC (by omega)) (q_ne hC (by omega))
    rw [nb 15 (by decide) (by decide), nb 17 (by decide) (by decide), nb 18 (by decide) (by decide)]
    exact hD.2 k hk
theorem m_tRec {Y : Ly} {q : Nat → Nat → Nat} {nL W nB : Nat} {M : Mm} {D : Dr} {tp : List Int32} {k : Nat} {Kn : Mm → Prop} (hC : SC Y q nL W nB) (hM : SM q (mR M)) (hT : TpM q M tp) (hD : DrM q M D) (hI : DrI D) (hk : k < dN D) (hn : tp.length + (rbD (dK D) (dC D) (dV D) (dW D) (dT D) k).length ≤ 16384) (h : ∀ M', Ec q PmU M M' → TpM q M' (tp ++ rbD (dK D) (dC D) (dV D) (dW D) (dT D) k) → DrM q M' D → Kn M') : f_X12_putRecord Y (q 20 0) (nI k) M Kn := by
  have i1 := hI.1
  obtain ⟨d1, d2, d3, d4, d5⟩ := hD.2 k hk
  obtain ⟨o1, o2, o3, o4, o5⟩ := rc_ok k (hI.2.2 k hk)
  have eR : rbD (mJ M (q 20 14)) (mI M (q 20 15)) (mJ M (q 20 16)) (mI M (q 20 17)) (mI M (q 20 18)) k = rbD (dK D) (dC D) (dV D) (dW D) (dT D) k := by unfold rbD; rw [d1, d2, d3, d4, d5]
  have hne : q 20 11 ≠ q 20 0 := q_ne hC (by decide)
  refine w_putRecord (sk_20_0 hC) (sm_10 hM) (sk_20_11 hC) hne (sm_13 hM) (sm_14 hM) (sm_15 hM) (sm_16 hM) (sm_17 hM) (sk_20_14 hC) (sk_20_15 hC) (sk_20_16 hC) (sk_20_17 hC) (sk_20_18 hC) (sn_20_14 hC) (sn_20_15 hC) (sn_20_16 hC) (sn_20_17 hC) (sn_20_18 hC) ⟨q_ne hC (by decide), q_ne hC (by decide)⟩ ⟨q_ne hC (by decide), q_ne hC (by decide)⟩ ⟨q_ne hC (by decide), q_ne hC (by decide)⟩ hT.1 (by omega) (by rw [d5]; exact o1) (by rw [d2]; exact o2) (by rw [d2]; exact o5) (by rw [d4]; exact o3) (by rw [d5, d2, d4]; exact o4) (by rw [eR, sn_20_11 hC]; exact hn) (by rw [sn_20_11 hC]; decide) ?_
  rw [eR]
  obtain ⟨X, hX⟩ : ∃ X, X = rbD (dK D) (dC D) (dV D) (dW D) (dT D) k := ⟨_, rfl⟩
  rw [← hX] at h ⊢
  have e0 : mI (mq M (q 20 0) (q 20 11) X tp.length) (q 20 0) = m1 (mI M (q 20 0)) 11 (nI (tp.length + X.length)) := mq_v _ _ _ _ _
  have E : Ec q PmU M (mq M (q 20 0) (q 20 11) X tp.length) := by
    refine ⟨fun a b j np => ⟨?_, rfl⟩, rfl⟩
    by_cases z : a = 20 ∧ b = 0
    · obtain ⟨rfl, rfl⟩ := z
      rw [e0]
      exact m1_nat _ _ (fun y => np ⟨rfl, Or.inl ⟨rfl, y⟩⟩)
    · rw [mq_n _ _ _ (q_ne hC z) (q_ne hC (fun y => np ⟨y.1, Or.inr y.2⟩))]
  refine h _ E ⟨by rw [e0, m1_at, List.length_append], ?_⟩ ?_
  · rw [mq_t _ _ _ hne]
    exact m8_ext hT.2
  · refine ⟨by rw [e0, m1_nat _ _ (by decide)]; exact hD.1, fun k hk => ?_⟩
    have nb : ∀ c, c ≠ 0 → c ≠ 11 → mI (mq M (q 20 0) (q 20 11) X tp.length) (q 20 c) = mI M (q 20 c) := fun c h0 h1 => mq_n _ _ _ (q_ne hC (by omega)) (q_ne hC (by omega))
    rw [nb 15 (by decide) (by decide), nb 17 (by decide) (by decide), nb 18 (by decide) (by decide)]
    exact hD.2 k hk
/-- the batch, its checksum not yet written -/
def slZ (T : List Int32) : List Int32 := pb 0 8 ++ pb (lN (9 + T.length)) 4 ++ pb 0 4 ++ pb 2 1 ++ pb 0 4
theorem sum_form {f : Nat → Int32} {tp T : List Int32} (h : Lie f 0 (m8 (tp ++ slZ T ++ T))) : Lie (wr f (tp.length + 17) (m8 (pb (ckv T).toInt64 4))) 0 (m8 (tp ++ btF T)) := by
  unfold slZ at h
  unfold btF
  simp only [m8_app, Lie_app, m8_len, pb_len, List.length_append, Nat.zero_add, Nat.reduceAdd] at h ⊢
  obtain ⟨⟨h0, ⟨⟨⟨h1, h2⟩, h3⟩, h4⟩, h5⟩, h6⟩ := h
  refine ⟨?_, ?_, ?_, ?_, ?_, ?_, ?_⟩
  · exact wr_keep h0 (by rw [m8_len]; omega)
  · exact wr_keep h1 (by simp only [m8_len, pb_len, List.length_singleton]; omega)
  · exact wr_keep h2 (by simp only [m8_len, pb_len, List.length_singleton]; omega)
  · exact wr_keep h3 (by simp only [m8_len, pb_len, List.length_singleton]; omega)
  · exact wr_keep h4 (by simp only [m8_len, pb_len, List.length_singleton]; omega)
  · exact wr_Lie _ _ _
  · exact wr_keep h6 (by simp only [m8_len, pb_len, List.length_singleton]; omega)
theorem m_sealed {Y : Ly} {q : Nat → Nat → Nat} {nL W nB : Nat} {M : Mm} {D : Dr} {tp : List Int32} {pr : Int64} {ep sq : Int32} {ft : Int64} {Kn : Mm → Prop} (hC : SC Y q nL W nB) (hM : SM q (mR M)) (hT : TpM q M tp) (hTI : TpI tp) (hD : DrM q M D) (hI : DrI D) (hO : FtO ft) (hroom : tp.length + 61 + (dY D).length ≤ 16384)
    (h : ∀ M', Ec q PmS M M' → mI M' (q 20 0) 0 = mI M (q 20 0) 0 → TpM q M' (tp ++ slB pr ep sq ft D) → DrM q M' (clD D) → Kn M') : f_X12_sealed Y (q 20 0) pr ep sq ft M Kn := by
  have i1 := hI.1
  have i2 := hI.2.1
  unfold f_X12_sealed
  refine ⟨sk_20_0 hC, fun x2 e2 => ?_⟩
  rw [hT.1] at e2
  subst e2
  refine LOOP2_inv (fun x3 x4 => ∃ k, k ≤ dN D ∧ x4 = nI k ∧ x3 = gX ft (dT D) k) (fun _ x4 => dN D - x4.toNatClampNeg) ?_ _ _ ⟨0, by omega, rfl, rfl⟩
  rintro x3 x4 again ⟨k, hk, rfl, rfl⟩ hag
  unfold L_X12_sealed_12 f_X12_sealed_54
  rw [hD.1]
  refine pk_le (dN D) k (fun g => ?_) (fun g => ?_)
  · have ek : k = dN D := by omega
    subst ek
    rw [gX_gt hO hI]
    have E0 : Ec q PmU M M := Ec_refl _ _ _
    have hM0 := hM
    have T0 := hT
    have D0 := hD
    refine m_tPut (n := 8) hC hM0 T0 D0 (by omega) (by decide) (fun M1 F1 T1 D1 => ?_)
    have E1 : Ec q PmU M M1 := Ec_trans E0 F1
    have hM1 : SM q (mR M1) := by rw [F1.2]; exact hM0
    refine m_weight hC hM1 D1 hI.1 hI.2.2 ?_
    rw [show (49 : Int32) + nI (dY D).length = nI (49 + (dY D).length) from nI_add 49 _, nI_l (by omega)]
    refine m_tPut (n := 4) hC hM1 T1 D1 (by simp only [List.length_append, pb_len]; omega) (by decide) (fun M2 F2 T2 D2 => ?_)
    have E2 : Ec q PmU M M2 := Ec_trans E1 F2
    have hM2 : SM q (mR M2) := by rw [F2.2]; exact hM1
    refine m_tPut (n := 4) hC hM2 T2 D2 (by simp only [List.length_append, pb_len]; omega) (by decide) (fun M3 F3 T3 D3 => ?_)
    have E3 : Ec q PmU M M3 := Ec_trans E2 F3
    have hM3 : SM q (mR M3) := by rw [F3.2]; exact hM2
    refine m_tPut (n := 1) hC hM3 T3 D3 (by simp only [List.length_append, pb_len]; omega) (by decide) (fun M4 F4 T4 D4 => ?_)
    have E4 : Ec q PmU M M4 := Ec_trans E3 F4
    have hM4 : SM q (mR M4) := by rw [F4.2]; exact hM3
    refine m_tPut (n := 4) hC hM4 T4 D4 (by simp only [List.length_append, pb_len]; omega) (by decide) (fun M5 F5 T5 D5 => ?_)
    have E5 : Ec q PmU M M5 := Ec_trans E4 F5
    have hM5 : SM q (mR M5) := by rw [F5.2]; exact hM4
    refine m_tPut (n := 2) hC hM5 T5 D5 (by simp only [List.length_append, pb_len]; omega) (by decide) (fun M6 F6 T6 D6 => ?_)
    have E6 : Ec q PmU M M6 := Ec_trans E5 F6
    have hM6 : SM q (mR M6) := by rw [F6.2]; exact hM5
    rw [D6.1]
    refine m_tPut (n := 4) hC hM6 T6 D6 (by simp only [List.length_append, pb_len]; omega) (by decide) (fun M7 F7 T7 D7 => ?_)
    have E7 : Ec q PmU M M7 := Ec_trans E6 F7
    have hM7 : SM q (mR M7) := by rw [F7.2]; exact hM6
    refine m_tPut (n := 8) hC hM7 T7 D7 (by simp only [List.length_append, pb_len]; omega) (by decide) (fun M8 F8 T8 D8 => ?_)
    have E8 : Ec q PmU M M8 := Ec_trans E7 F8
    have hM8 : SM q (mR M8) := by rw [F8.2]; exact hM7
    refine m_tPut (n := 8) hC hM8 T8 D8 (by simp only [List.length_append, pb_len]; omega) (by decide) (fun M9 F9 T9 D9 => ?_)
    have E9 : Ec q PmU M M9 := Ec_trans E8 F9
    have hM9 : SM q (mR M9) := by rw [F9.2]; exact hM8
    refine m_tPut (n := 8) hC hM9 T9 D9 (by simp only [List.length_append, pb_len]; omega) (by decide) (fun M10 F10 T10 D10 => ?_)
    have E10 : Ec q PmU M M10 := Ec_trans E9 F10
    have hM10 : SM q (mR M10) := by rw [F10.2]; exact hM9
    refine m_tPut (n := 2) hC hM10 T10 D10 (by simp only [List.length_append, pb_len]; omega) (by decide) (fun M11 F11 T11 D11 => ?_)
    have E11 : Ec q PmU M M11 := Ec_trans E10 F11
    have hM11 : SM q (mR M11) := by rw [F11.2]; exact hM10
    refine m_tPut (n := 4) hC hM11 T11 D11 (by simp only [List.length_append, pb_len]; omega) (by decide) (fun M12 F12 T12 D12 => ?_)
    have E12 : Ec q PmU M M12 := Ec_trans E11 F12
    have hM12 : SM q (mR M12) := by rw [F12.2]; exact hM11
    rw [D12.1]
    refine m_tPut (n := 4) hC hM12 T12 D12 (by simp only [List.length_append, pb_len]; omega) (by decide) (fun M13 F13 T13 D13 => ?_)
    have E13 : Ec q PmU M M13 := Ec_trans E12 F13
    have hM13 : SM q (mR M13) := by rw [F13.2]; exact hM12
    obtain ⟨T, hTT⟩ : ∃ T, T = btH (nI (dN D) - 1).toInt64 ft (gtD ft D) pr ep.toInt64 sq.toInt64 (nI (dN D)).toInt64 ++ dY D := ⟨_, rfl⟩
    have hTl : T.length = 40 + (dY D).length := by rw [hTT, List.length_append, btH_len]
    obtain ⟨P, hP⟩ : ∃ P, P = tp ++ pb 0 8 ++ pb (lN (49 + (dY D).length)) 4 ++ pb 0 4 ++ pb 2 1 ++ pb 0 4 ++ pb 0 2 ++ pb (nI (dN D) - 1).toInt64 4 ++ pb ft 8 ++ pb (gtD ft D) 8 ++ pb pr 8 ++ pb ep.toInt64 2 ++ pb sq.toInt64 4 ++ pb (nI (dN D)).toInt64 4 := ⟨_, rfl⟩
    have hPl : P.length = tp.length + 61 := by rw [hP]; simp only [List.length_append, pb_len]
    have hPT : P ++ dY D = tp ++ slZ T ++ T := by
      unfold slZ
      rw [hTl, hP, hTT, show 9 + (40 + (dY D).length) = 49 + (dY D).length by omega]
      unfold btH
      simp only [List.append_assoc]
    rw [← hP] at T13
    have dl : ∀ k, k ≤ dN D → (dB (dK D) (dC D) (dV D) (dW D) (dT D) k).length ≤ (dY D).length := by
      intro k hk
      have : ∀ j, (dB (dK D) (dC D) (dV D) (dW D) (dT D) k).length ≤ (dB (dK D) (dC D) (dV D) (dW D) (dT D) (k + j)).length := by
        intro j
        induction j with
        | zero => exact Nat.le_refl _
        | succ j ih => rw [← Nat.add_assoc]; simp only [dB, List.length_append]; omega
      have := this (dN D - k)
      rw [show k + (dN D - k) = dN D by omega] at this
      exact this
    refine LOOP2_inv (fun x21 M22 => ∃ k, k ≤ dN D ∧ x21 = nI k ∧ Ec q PmU M M22 ∧ TpM q M22 (P ++ dB (dK D) (dC D) (dV D) (dW D) (dT D) k) ∧ DrM q M22 D) (fun x21 _ => dN D - x21.toNatClampNeg) ?_ _ _ ⟨0, by omega, rfl, E13, by simp only [dB, List.append_nil]; exact T13, D13⟩
    rintro x21 M22 again2 ⟨k, hk, rfl, E, Tk, Dk⟩ hag2
    have hM2 : SM q (mR M22) := by rw [E.2]; exact hM
    unfold L_X12_sealed_171
    rw [Dk.1]
    refine pk_le (dN D) k (fun g => ?_) (fun g => ?_)
    · have ek : k = dN D := by omega
      subst ek
      have Tk : TpM q M22 (P ++ dY D) := Tk
      refine ⟨_, sm_10 hM2, _, sm_10 hM2, ?_⟩
      have e11 : mI M22 (q 20 0) 11 = nI (tp.length + 21 + T.length) := by rw [Tk.1, List.length_append, hPl, hTl]; congr 1; omega
      rw [e11, show nI tp.length + 21 = nI (tp.length + 21) from nI_add _ 21, show nI tp.length + 17 = nI (tp.length + 17) from nI_add _ 17]
      refine s_sum (sk_20_11 hC) (by rw [sn_20_11 hC]; omega) (by rw [sn_20_11 hC]; decide) ?_
      refine w_set (n := 4) (sk_20_11 hC) (by rw [sn_20_11 hC]; omega) (by rw [sn_20_11 hC]; decide) ?_
      intro M29 e29
      have TT := Tk.2
      rw [hPT] at TT
      have TL : Lie (mI M22 (q 20 11)) (tp.length + 21) (m8 T) := by
        have := TT
        rw [m8_app, Lie_app] at this
        have := this.2
        rw [m8_len, List.length_append, show (slZ T).length = 21 by unfold slZ; simp only [List.length_append, pb_len], Nat.zero_add] at this
        exact this
      rw [sum_ck TL] at e29
      have z0 : mI M29 (q 20 0) = m1 (mI M22 (q 20 0)) 12 0 := by rw [e29, mI_sI_self, I_ne hC _ _ (by decide)]
      refine h M29 ?_ ?_ ⟨?_, ?_⟩ ⟨?_, fun k hk => absurd hk (Nat.not_lt_zero _)⟩
      · refine Ec_trans (Ec_mono E (fun a b j z => by unfold PmU at z; unfold PmS; omega)) (Ec_trans (Ec_sIr hC (a := 20) (b := 11) rfl (fun j => ⟨rfl, Or.inr rfl⟩)) (Ec_sI hC e29 ⟨rfl, Or.inl ⟨rfl, by omega⟩⟩))
      · rw [z0, m1_nat _ _ (by decide)]
        exact (E.1 20 0 0 (by unfold PmU; omega)).1
      · rw [z0, m1_nat _ _ (by decide), e11, List.length_append, slB_len, hTl]; congr 1; omega
      · rw [e29, I_ne hC _ _ (by decide), mI_sI_self]
        have := sum_form TT
        unfold slB
        rw [← hTT]; exact this
      · rw [z0, m1_at]; rfl
    · have dk := dl (k + 1) (by omega)
      simp only [dB, List.length_append] at dk
      refine m_tRec hC hM2 Tk Dk hI (by omega) (by rw [List.length_append, hPl]; omega) (fun M30 F30 T30 D30 => ?_)
      intro x31 e31
      rw [nI_1] at e31
      subst e31
      refine hag2 _ _ ⟨k + 1, by omega, rfl, Ec_trans E F30, ?_, D30⟩ ?_
      · simp only [dB]
        rw [← List.append_assoc]; exact T30
      · rw [nI_clamp (by omega), nI_clamp (by omega)]; omega
  · have hin : vp_in (nI k) (yN Y (q 20 18)) := by rw [sn_20_18 hC]; exact vp_in_nI (by omega) (by decide)
    have ed := (hD.2 k (by omega)).2.2.2.2
    refine ⟨_, sm_17 hM, sk_20_18 hC, hin, ?_⟩
    rw [nI_clamp (by omega), ed]
    refine ⟨fun c x36 e36 => ?_, fun c => ⟨_, sm_17 hM, sk_20_18 hC, hin, fun x36 e36 => ?_⟩⟩
    · rw [nI_1] at e36
      subst e36
      refine hag _ _ ⟨k + 1, by omega, rfl, ?_⟩ (by rw [nI_clamp (by omega), nI_clamp (by omega)]; omega)
      simp only [gX]; rw [if_pos c]
    · rw [nI_1] at e36
      subst e36
      rw [ed]
      refine hag _ _ ⟨k + 1, by omega, rfl, ?_⟩ (by rw [nI_clamp (by omega), nI_clamp (by omega)]; omega)
      simp only [gX]; rw [if_neg c]
theorem m_seal {Y : Ly} {q : Nat → Nat → Nat} {nL W nB : Nat} {M : Mm} {D : Dr} {tp : List Int32} {pr : Int64} {ep sq : Int32} {ft : Int64} {Kn : Int32 → Mm → Prop} (hC : SC Y q nL W nB) (hM : SM q (mR M)) (hT : TpM q M tp) (hTI : TpI tp) (hD : DrM q M D) (hI : DrI D) (h0 : ¬ FtO ft → Kn 0 (cd q M 1)) (h2 : FtO ft → ¬ tp.length + 61 + (dY D).length ≤ 16384 → Kn 0 (cd q M 2))
    (h : FtO ft → tp.length + 61 + (dY D).length ≤ 16384 → ∀ M', Ec q PmS M M' → mI M' (q 20 0) 0 = 0 → TpM q M' (tp ++ slB pr ep sq ft D) → DrM q M' (clD D) → Kn (nI (tp.length + 61 + (dY D).length)) M') : f_X12_seal Y (q 20 0) pr ep sq ft M Kn := by
  have i2 := hI.2.1
  have t1 := hTI.1
  have no : ¬ FtO ft → f_X12_seal_44 Y (q 20 0) pr ep sq ft Kn 1 M := by
    intro g
    unfold f_X12_seal_44
    refine ⟨sk_20_0 hC, fun M3 e3 => ?_⟩
    have e3 : M3 = cd q M 1 := e3
    subst e3
    exact ⟨fun z => by rw [cd_0] at z; exact absurd z (by decide), fun _ => h0 g⟩
  unfold f_X12_seal f_X12_seal_17
  refine ⟨fun g => no (fun z => Int64.not_lt.mpr z.1 g), fun g => ⟨fun g2 => ⟨sk_20_0 hC, m_weight hC hM hD hI.1 hI.2.2 ?_⟩, fun g2 => no (fun z => g2 z.2)⟩⟩
  have hO : FtO ft := ⟨Int64.not_lt.mp g, g2⟩
  rw [hT.1, show nI tp.length + 61 = nI (tp.length + 61) from nI_add _ 61, nI_add]
  unfold f_X12_seal_44
  refine pk_le (tp.length + 61 + (dY D).length) 16384 (fun g3 => ⟨sk_20_0 hC, fun M3 e3 => ?_⟩) (fun g3 => ⟨sk_20_0 hC, fun M3 e3 => ?_⟩)
  · have e3 : M3 = cd q M 0 := e3
    subst e3
    refine ⟨fun _ => ?_, fun z => absurd (by rw [cd_0]; decide) z⟩
    refine m_sealed hC hM (cd_T hC hT 0) hTI (cd_D hC hD 0) hI hO g3 (fun M6 E z T6 D6 => ?_)
    rw [T6.1, List.length_append, slB_len, ← Nat.add_assoc]
    exact h hO g3 M6 (Ec_trans (cd_Ec hC 0 ⟨rfl, Or.inl ⟨rfl, Or.inl rfl⟩⟩) E) (by rw [z, cd_0]) T6 D6
  · have e3 : M3 = cd q M 2 := e3
    subst e3
    exact ⟨fun z => by rw [cd_0] at z; exact absurd z (by decide), fun _ => h2 hO (by omega)⟩
