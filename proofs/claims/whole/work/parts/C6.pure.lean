/-! committed, share, ticks -/
def rCtd (nL : Nat) (v l : Int32) (A : AS) : Op := oB (LgO 8 v ∧ LgO nL l) (oB (lD (aL A) = 0) (oR 0 (ntV v l (BS (lS (aL A) nL)).reverse) A) (oR 2 0 A)) (oR 1 0 A)
theorem rCtd_D (nL : Nat) (v l : Int32) (A : AS) : Det (rCtd nL v l A) := Det_B (fun _ => Det_B (fun _ => Det_R _ _ _) (fun _ => Det_R _ _ _)) (fun _ => Det_R _ _ _)
theorem rCtd_P {nL W nB n : Nat} {v l : Int32} {A : AS} (h : AI nL W nB n A) : Pre nL W nB n (rCtd nL v l A) := by
  have up := AI_up h (Nat.le_add_right n KK)
  exact Pre_B (fun g => Pre_B (fun _ => Pre_R up) (fun _ => Pre_R up)) (fun _ => Pre_R up)
theorem l_committed {Y : Ly} {q : Nat → Nat → Nat} {nL W nB : Nat} {M : Mm} {A : AS} {n : Nat} {v l : Int32} {Kn : Int32 → Mm → Prop} (hC : SC Y q nL W nB) (hR : SR q nL (mR M)) (hA : Rsl Y q) (hS : CS q nL W nB M A) (hI : AI nL W nB n A) (hK : KC q nL W nB (rCtd nL v l A) M Kn) : f_L_committed Y (q 0 0) v l (q 21 0) M Kn := by
  refine ⟨sk_0_0 hC, ?_⟩
  unfold f_X11_committed f_X11_committed_19
  have no : ¬ (LgO 8 v ∧ LgO nL l) → Kn 1 M := fun g => K_no (by decide) hK (Or.inr ⟨g, rfl⟩) hS (Ec_refl _ _ _)
  refine c_eight (fun g1 => ⟨fun z => absurd z (by decide), fun _ => ⟨sk_0_0 hC, c_isFor hC hS.1 (fun g2 => ⟨fun z => absurd z (by decide), fun _ => ?_⟩) (fun g2 => ⟨fun _ => ⟨fun z => absurd rfl z, fun _ => Or.inl ⟨rfl, no (fun z => g2 z.2)⟩⟩, fun z => absurd rfl z⟩)⟩⟩) (fun g1 => ⟨fun _ => ⟨fun z => absurd rfl z, fun _ => Or.inl ⟨rfl, no (fun z => g1 z.1)⟩⟩, fun z => absurd rfl z⟩)
  have hX : LgO 8 v ∧ LgO nL l := ⟨g1, g2⟩
  have hCL := hS.2.2.2.2.2.1
  unfold f_X11_committed_20
  refine ⟨fun _ => ⟨sk_0_0 hC, c_power hC hR hCL (fun g3 => ⟨_, sr_0_0_12 hR, sk_0_26 hC, ?_⟩) (fun g3 => Or.inr ⟨rfl, K_no (by decide) hK (Or.inl ⟨hX, Or.inr ⟨g3, rfl⟩⟩) hS (Ec_refl _ _ _)⟩)⟩, fun z => absurd z (by decide)⟩
  refine c_latest (L := aL A) hC hR hI.2.2.2.2.1 (hCL.2.2.2.2.2 g3) hCL.2.1 hI.2.2.2.2.2.2.2.1 ?_
  exact K_st hC hA hK (Or.inl ⟨hX, Or.inl ⟨g3, rfl⟩⟩) hS (Ec_refl _ _ _)
theorem n_committed {Y : Ly} {q : Nat → Nat → Nat} {nL W nB : Nat} {M : Mm} {A : AS} {n : Nat} {v l : Int32} {Kn : Int64 → Mm → Prop} (hC : SC Y q nL W nB) (hM : SM q (mR M)) (hS : MS q nL W nB M A) (hI : AI nL W nB n A) (hK : KM q nL W nB (rCtd nL v l A) M Kn) : f_X12_committed Y (q 20 0) v l M Kn := by
  have hd := sdims hC
  have w1 : mI M (q 20 0) 1 = nI nL := by obtain ⟨B, hp, ht, hLM⟩ := hS.2.2.2.2.1.1; exact hLM.1.1
  have w5 : mI M (q 20 0) 5 = lD (aL A) := hS.2.2.2.2.1.2.2.2
  have no : ¬ (LgO 8 v ∧ LgO nL l) → f_X12_committed_25 Y (q 20 0) v l Kn M 0 := by
    intro g
    unfold f_X12_committed_25 f_X12_committed_41
    exact ⟨sk_20_0 hC, m_goes hC (fun z => absurd rfl z) (fun z => absurd rfl z) (fun _ => ⟨fun _ => M_no hC (by decide) hK (Or.inr ⟨g, rfl⟩) hS, fun z => absurd rfl z⟩)⟩
  unfold f_X12_committed f_X12_committed_24
  refine m_isOne (fun g1 => ⟨fun z => absurd z (by decide), fun _ => ?_⟩) (fun g1 => ⟨fun _ => no (fun z => g1 z.1), fun z => absurd rfl z⟩)
  rw [w1]
  refine ⟨fun g => no (fun z => Int32.not_lt.mpr z.2.1 g), fun g5 => ⟨sk_20_0 hC, fun g => no (fun z => Int32.not_lt.mpr g z.2.2), fun g6 => ?_⟩⟩
  have g4 : LgO nL l := ⟨Int32.not_lt.mp g5, Int32.not_le.mp g6⟩
  have hX : LgO 8 v ∧ LgO nL l := ⟨g1, g4⟩
  unfold f_X12_committed_25 f_X12_committed_41
  refine ⟨sk_20_0 hC, m_goes hC (fun _ g => ⟨fun z => absurd z (by decide), fun _ => ?_⟩) (fun _ g => ⟨fun _ => M_no hC (by decide) hK (Or.inl ⟨hX, Or.inr ⟨by rw [← w5]; exact g, rfl⟩⟩) hS, fun z => absurd rfl z⟩) (fun z => absurd z (by decide))⟩
  rw [w5] at g
  have S2 := cd_MS hC hS 0
  have E2 : Ef q Pm20 M (cd q M 0) := (Ec_H (cd_Ec hC 0 rfl)).1
  obtain ⟨i, hi, rfl⟩ := LgO_n (by decide) g1
  obtain ⟨m, hm, rfl⟩ := LgO_n (by omega) g4
  obtain ⟨B, hp, ht, hLM⟩ := S2.2.2.2.2.1.1
  refine m_noted (M := cd q M 0) hC hM hI.2.2.2.2.1 hLM hI.2.2.2.2.2.1 hI.2.2.2.2.2.2.2.1 (by omega) (by omega) (fun M' F => ?_)
  have E6 : EfH q Qm (cd q M 0) M' := EfH_mono (EfH_Scr hC F) (fun a b j z => by unfold P4 at z; unfold Qm; omega)
  have z6 : mI M' (q 20 0) 0 = 0 := by rw [((EfH_Scr hC F).1.1 20 0 0 (by unfold P4; omega)).1]; exact cd_0 _ _ _
  exact hK (0, _, A) _ _ (Or.inl ⟨hX, Or.inl ⟨g, rfl⟩⟩) (MS_scr hC S2 E6) (Ef_trans E2 (Ef_mono E6.1 (fun a b j z => z.1))) z6 (fun _ => rfl)
def rShare (nL : Nat) (v k : Int32) (A : AS) : Op := oB (LgO 8 v ∧ LgO 8 k) (oB (lD (aL A) = 0) (oR 0 (nI (if gS (aG A) v.toNatClampNeg = 2 ∧ (gM (aG A) v.toNatClampNeg).testBit k.toNatClampNeg = true then shM nL (gM (aG A) v.toNatClampNeg) k.toNatClampNeg else 0)).toInt64 A) (oR 2 0 A)) (oR 1 0 A)
theorem rShare_D (nL : Nat) (v k : Int32) (A : AS) : Det (rShare nL v k A) := Det_B (fun _ => Det_B (fun _ => Det_R _ _ _) (fun _ => Det_R _ _ _)) (fun _ => Det_R _ _ _)
theorem rShare_P {nL W nB n : Nat} {v k : Int32} {A : AS} (h : AI nL W nB n A) : Pre nL W nB n (rShare nL v k A) := by
  have up := AI_up h (Nat.le_add_right n KK)
  exact Pre_B (fun g => Pre_B (fun _ => Pre_R up) (fun _ => Pre_R up)) (fun _ => Pre_R up)
theorem l_share {Y : Ly} {q : Nat → Nat → Nat} {nL W nB : Nat} {M : Mm} {A : AS} {n : Nat} {v k : Int32} {Kn : Int32 → Mm → Prop} (hC : SC Y q nL W nB) (hR : SR q nL (mR M)) (hA : Rsl Y q) (hS : CS q nL W nB M A) (hI : AI nL W nB n A) (hK : KC q nL W nB (rShare nL v k A) M Kn) : f_L_share Y (q 0 0) v k (q 21 0) M Kn := by
  refine ⟨sk_0_0 hC, ?_⟩
  unfold f_X11_share f_X11_share_18
  have no : ¬ (LgO 8 v ∧ LgO 8 k) → Kn 1 M := fun g => K_no (by decide) hK (Or.inr ⟨g, rfl⟩) hS (Ec_refl _ _ _)
  refine c_eight (fun g1 => ⟨fun z => absurd z (by decide), fun _ => c_eight (fun g2 => ⟨fun z => absurd z (by decide), fun _ => ?_⟩) (fun g2 => ⟨fun _ => ⟨fun z => absurd rfl z, fun _ => Or.inl ⟨rfl, no (fun z => g2 z.2)⟩⟩, fun z => absurd rfl z⟩)⟩) (fun g1 => ⟨fun _ => ⟨fun z => absurd rfl z, fun _ => Or.inl ⟨rfl, no (fun z => g1 z.1)⟩⟩, fun z => absurd rfl z⟩)
  have hX : LgO 8 v ∧ LgO 8 k := ⟨g1, g2⟩
  have hCL := hS.2.2.2.2.2.1
  unfold f_X11_share_19
  refine ⟨fun _ => ⟨sk_0_0 hC, c_power hC hR hCL (fun g3 => ⟨_, sr_0_0_12 hR, sk_0_26 hC, ?_⟩) (fun g3 => Or.inr ⟨rfl, K_no (by decide) hK (Or.inl ⟨hX, Or.inr ⟨g3, rfl⟩⟩) hS (Ec_refl _ _ _)⟩)⟩, fun z => absurd z (by decide)⟩
  obtain ⟨i, hi, rfl⟩ := LgO_n (by decide) g1
  obtain ⟨j, hj, rfl⟩ := LgO_n (by decide) g2
  have ci : (nI i).toNatClampNeg = i := nI_clamp (by omega)
  have cj : (nI j).toNatClampNeg = j := nI_clamp (by omega)
  refine c_share hC hR hS.2.2.2.2.1 hI.2.2.2.1 hi hj ?_
  refine K_st hC hA hK (Or.inl ⟨hX, Or.inl ⟨g3, ?_⟩⟩) hS (Ec_refl _ _ _)
  rw [ci, cj]; rfl
theorem n_share {Y : Ly} {q : Nat → Nat → Nat} {nL W nB : Nat} {M : Mm} {A : AS} {n : Nat} {v k : Int32} {Kn : Int64 → Mm → Prop} (hC : SC Y q nL W nB) (hM : SM q (mR M)) (hS : MS q nL W nB M A) (hI : AI nL W nB n A) (hK : KM q nL W nB (rShare nL v k A) M Kn) : f_X12_share Y (q 20 0) v k M (fun r M' => Kn r.toInt64 M') := by
  have hd := sdims hC
  have w5 : mI M (q 20 0) 5 = lD (aL A) := hS.2.2.2.2.1.2.2.2
  have no : ¬ (LgO 8 v ∧ LgO 8 k) → f_X12_share_20 Y (q 20 0) v k (fun r M' => Kn r.toInt64 M') 0 M := by
    intro g
    unfold f_X12_share_20 f_X12_share_50
    exact ⟨sk_20_0 hC, m_goes hC (fun z => absurd rfl z) (fun z => absurd rfl z) (fun _ => ⟨fun _ => M_no hC (by decide) hK (Or.inr ⟨g, rfl⟩) hS, fun z => absurd rfl z⟩)⟩
  unfold f_X12_share f_X12_share_19
  refine m_isOne (fun g1 => ⟨fun z => absurd z (by decide), fun _ => m_isOne (fun g2 => ⟨fun z => absurd z (by decide), fun _ => ?_⟩) (fun g2 => ⟨fun _ => no (fun z => g2 z.2), fun z => absurd rfl z⟩)⟩) (fun g1 => ⟨fun _ => no (fun z => g1 z.1), fun z => absurd rfl z⟩)
  have hX : LgO 8 v ∧ LgO 8 k := ⟨g1, g2⟩
  unfold f_X12_share_20 f_X12_share_50
  refine ⟨sk_20_0 hC, m_goes hC (fun _ g => ⟨fun z => absurd z (by decide), fun _ => ?_⟩) (fun _ g => ⟨fun _ => M_no hC (by decide) hK (Or.inl ⟨hX, Or.inr ⟨by rw [← w5]; exact g, rfl⟩⟩) hS, fun z => absurd rfl z⟩) (fun z => absurd z (by decide))⟩
  rw [w5] at g
  have S2 := cd_MS hC hS 0
  have E2 : Ef q Pm20 M (cd q M 0) := (Ec_H (cd_Ec hC 0 rfl)).1
  obtain ⟨i, hi, rfl⟩ := LgO_n (by decide) g1
  obtain ⟨j, hj, rfl⟩ := LgO_n (by decide) g2
  have ci : (nI i).toNatClampNeg = i := nI_clamp (by omega)
  have cj : (nI j).toNatClampNeg = j := nI_clamp (by omega)
  have fin : ∀ x, x = nI (if gS (aG A) i = 2 ∧ (gM (aG A) i).testBit j = true then shM nL (gM (aG A) i) j else 0) → Kn x.toInt64 (cd q M 0) := by
    intro x hx
    refine hK (0, _, A) _ _ (Or.inl ⟨hX, Or.inl ⟨g, rfl⟩⟩) S2 E2 (cd_0 _ _ _) (fun _ => ?_)
    rw [hx, ci, cj]
  obtain ⟨t0, t1, t2, t3, t4, t5, t6⟩ := S2.2.2.2.1
  have hs2 : mI (cd q M 0) (q 20 35) i = nI (gS (aG A) i) := t2 i hi
  have hsl := (hI.2.2.2.1.2.2 i hi).2.1
  have w1 : mI (cd q M 0) (q 20 0) 1 = nI nL := by obtain ⟨B, hp, ht, hLM⟩ := S2.2.2.2.2.1.1; exact hLM.1.1
  refine ⟨_, sm_34 hM, sk_20_35 hC, by rw [sn_20_35 hC]; exact vp_in_nI (by omega) (by decide), ?_⟩
  rw [ci, hs2, nIeq (x := 2) (b := 2) rfl (by omega) (by omega)]
  refine ⟨fun z => fin 0 (by rw [if_neg (fun y => z y.1)]; rfl), fun z => ⟨_, sm_37 hM, sk_20_38 hC, ?_⟩⟩
  have e8 : 8 * nI i + nI j = nI (8 * i + j) := by rw [show (8 : Int32) = nI 8 from rfl, pk_mul, nI_add]
  rw [e8, sn_20_38 hC]
  refine ⟨vp_in_nI (by omega) (by decide), ?_⟩
  have hb := t3 i j hi hj
  rw [nI_clamp (by omega), hb]
  by_cases c : (gM (aG A) i).testBit j = true
  · refine ⟨fun _ x17 e17 => ?_, fun z => ?_⟩
    · rw [w1] at e17
      subst e17
      refine m_shareL (M := cd q M 0) hC hM S2.2.2.2.1 hi hj c (fin _ ?_)
      rw [if_pos ⟨z, c⟩]
    · exfalso
      unfold bt1 at z
      rw [c] at z
      exact absurd z (by decide)
  · refine ⟨fun z => ?_, fun _ => fin 0 (by rw [if_neg (fun y => c y.2)]; rfl)⟩
    exfalso
    apply z
    unfold bt1
    rw [Bool.not_eq_true] at c
    rw [c]; rfl
def rTicks (nL W nB : Nat) (v : Int32) (A : AS) : Op := oB (1 ≤ v ∧ v ≤ 200) (oB (lD (aL A) = 0) (oB (gT (aG A) + v.toNatClampNeg ≤ 100000) (oE (fun x : GSt × LSt => TkN nL W nB v.toNatClampNeg (aG A) (aL A) x.1 x.2) (fun x => oR 0 (if lD x.2 = 0 then nI (gT x.1) else -3 : Int32).toInt64 (xG A x.1 x.2))) (oR 2 0 A)) (oR 2 0 A)) (oR 1 0 A)
theorem rTicks_D (nL W nB : Nat) (v : Int32) (A : AS) : Det (rTicks nL W nB v A) := Det_B (fun _ => Det_B (fun _ => Det_B (fun _ => Det_E (fun x y h h' => Prod.ext (TkN_fun h h').1 (TkN_fun h h').2) (fun _ _ => Det_R _ _ _)) (fun _ => Det_R _ _ _)) (fun _ => Det_R _ _ _)) (fun _ => Det_R _ _ _)
theorem v200 {v : Int32} (h : 1 ≤ v ∧ v ≤ 200) : ∃ N, 1 ≤ N ∧ N ≤ 200 ∧ v = nI N := by
  obtain ⟨N, hN, rfl⟩ := nI_of (Int32.not_lt.mpr (Int32.le_trans (show (0 : Int32) ≤ 1 by decide) h.1))
  exact ⟨N, (nI_cmp (a := 1) (by omega) hN).mp h.1, (nI_cmp (b := 200) hN (by omega)).mp h.2, rfl⟩
theorem l_ticks {Y : Ly} {q : Nat → Nat → Nat} {nL W nB : Nat} {M : Mm} {A : AS} {n : Nat} {v : Int32} {Kn : Int32 → Mm → Prop} (hC : SC Y q nL W nB) (hR : SR q nL (mR M)) (hA : Rsl Y q) (hS : CS q nL W nB M A) (hI : AI nL W nB n A) (hn : n + KK < 2 ^ 30) (hK : KC q nL W nB (rTicks nL W nB v A) M Kn) : f_L_ticks Y (q 0 0) v (q 21 0) M Kn := by
  refine ⟨sk_0_0 hC, ?_⟩
  unfold f_X11_ticks
  have hCL := hS.2.2.2.2.2.1
  refine s_within (lo := 1) (hi := 200) rfl rfl (fun g1 => ⟨fun _ => ⟨sk_0_0 hC, c_power hC hR hCL (fun g3 => ⟨_, sr_0_0_12 hR, sk_0_26 hC, ?_⟩) (fun g3 => Or.inr ⟨rfl, K_no (by decide) hK (Or.inl ⟨g1, Or.inr ⟨g3, rfl⟩⟩) hS (Ec_refl _ _ _)⟩)⟩, fun z => absurd z (by decide)⟩) (fun g1 => ⟨fun z => absurd rfl z, fun _ => Or.inl ⟨rfl, K_no (by decide) hK (Or.inr ⟨g1, rfl⟩) hS (Ec_refl _ _ _)⟩⟩)
  have hX := g1
  obtain ⟨N, hN1, hN, rfl⟩ := v200 g1
  have cN : (nI N).toNatClampNeg = N := nI_clamp (by omega)
  have htT := hI.2.2.2.1.1
  rw [hS.2.2.2.2.1.1, nI_add]
  unfold f_X11_ticks_36
  refine pk_lt 100000 (gT (aG A) + N) (fun g4 => ⟨fun z => absurd rfl z, fun _ => Or.inr ⟨rfl, K_no (by decide) hK (Or.inl ⟨hX, Or.inl ⟨g3, Or.inr ⟨by rw [cN]; omega, rfl⟩⟩⟩) hS (Ec_refl _ _ _)⟩⟩) (fun g4 => ⟨fun _ => ?_, fun z => absurd z (by decide)⟩)
  refine c_ticksL (L := aL A) (G := aG A) hC hR hCL g3 hI.2.2.2.2 hS.2.2.2.2.1 hI.2.2.2.1 hN (by unfold KK at hn; omega) g4 (fun G' L' M' hs G2 C2 F2 hb _ _ => ?_)
  exact K_st hC hA hK (Or.inl ⟨hX, Or.inl ⟨g3, Or.inl ⟨by rw [cN]; exact g4, (G', L'), by rw [cN]; exact hs, rfl⟩⟩⟩) (CS_gr hC hS F2 G2 C2 hb (fun _ => g3)) (PcG_9 hC F2)
theorem n_ticks {Y : Ly} {q : Nat → Nat → Nat} {nL W nB : Nat} {M : Mm} {A : AS} {n : Nat} {v : Int32} {Kn : Int64 → Mm → Prop} (hC : SC Y q nL W nB) (hM : SM q (mR M)) (hS : MS q nL W nB M A) (hI : AI nL W nB n A) (hn : n + KK < 2 ^ 30) (hK : KM q nL W nB (rTicks nL W nB v A) M Kn) : f_X12_ticks Y (q 20 0) v M (fun r M' => Kn r.toInt64 M') := by
  have w5 : mI M (q 20 0) 5 = lD (aL A) := hS.2.2.2.2.1.2.2.2
  have no : ¬ (1 ≤ v ∧ v ≤ 200) → f_X12_ticks_18 Y (q 20 0) v M (fun r M' => Kn r.toInt64 M') 0 := by
    intro g
    unfold f_X12_ticks_18
    exact ⟨sk_20_0 hC, m_goes hC (fun z => absurd rfl z) (fun z => absurd rfl z) (fun _ => ⟨fun z => absurd rfl z, fun _ => M_no hC (by decide) hK (Or.inr ⟨g, rfl⟩) hS⟩)⟩
  unfold f_X12_ticks f_X12_ticks_17
  refine ⟨fun g => no (fun z => Int32.not_lt.mpr z.1 g), fun g5 => ⟨fun g => no (fun z => Int32.not_lt.mpr z.2 g), fun g6 => ?_⟩⟩
  have g1 : 1 ≤ v ∧ v ≤ 200 := ⟨Int32.not_lt.mp g5, Int32.not_lt.mp g6⟩
  have hX := g1
  unfold f_X12_ticks_18
  refine ⟨sk_20_0 hC, m_goes hC (fun _ g => ⟨fun _ => ?_, fun z => absurd z (by decide)⟩) (fun _ g => ⟨fun z => absurd rfl z, fun _ => M_no hC (by decide) hK (Or.inl ⟨hX, Or.inr ⟨by rw [← w5]; exact g, rfl⟩⟩) hS⟩) (fun z => absurd z (by decide))⟩
  rw [w5] at g
  obtain ⟨N, hN1, hN, rfl⟩ := v200 g1
  have cN : (nI N).toNatClampNeg = N := nI_clamp (by omega)
  have htT := hI.2.2.2.1.1
  have S2 := cd_MS hC hS 0
  have E2 : Ef q Pm20 M (cd q M 0) := (Ec_H (cd_Ec hC 0 rfl)).1
  rw [S2.2.2.2.1.1, nI_add]
  unfold f_X12_ticks_44
  refine pk_le (gT (aG A) + N) 100000 (fun g4 => ?_) (fun g4 => ?_)
  · intro M7 e7
    have e7 : M7 = cd q (cd q M 0) 0 := e7
    have S7 := cd_MS hC S2 0
    rw [← e7] at S7
    have z7 : mI M7 (q 20 0) 0 = 0 := by rw [e7, cd_0]
    have hM7 : SM q (mR M7) := by rw [e7]; exact hM
    have E7 : Ef q Pm20 M M7 := by rw [e7]; exact Ef_trans E2 (Ec_H (cd_Ec hC 0 rfl)).1
    refine m_ticksL (L := aL A) (G := aG A) hC hM7 S7.2.2.2.2.1 g hI.2.2.2.2 S7.2.2.2.1 hI.2.2.2.1 hN (by unfold KK at hn; omega) g4 z7 (fun G' L' M' hs G2 C2 F3 => ?_)
    exact hK (0, _, _) _ _ (Or.inl ⟨hX, Or.inl ⟨g, Or.inl ⟨by rw [cN]; exact g4, (G', L'), by rw [cN]; exact hs, rfl⟩⟩⟩) (MS_gr (Y := Y) S7 F3 G2 C2) (Ef_trans E7 (PT_20 F3)) (by rw [PT_0 F3]; exact z7) (fun _ => rfl)
  · intro M7 e7
    have e7 : M7 = cd q (cd q M 0) 2 := e7
    have S7 := cd_MS hC S2 2
    rw [← e7] at S7
    have z7 : mI M7 (q 20 0) 0 = 2 := by rw [e7, cd_0]
    have E7 : Ef q Pm20 M M7 := by rw [e7]; exact Ef_trans E2 (Ec_H (cd_Ec hC 2 rfl)).1
    have fin : Kn (0 : Int32).toInt64 M7 := hK (2, 0, A) _ _ (Or.inl ⟨hX, Or.inl ⟨g, Or.inr ⟨by rw [cN]; omega, rfl⟩⟩⟩) S7 E7 z7 (fun z => absurd z (by dsimp only; decide))
    have f110 : f_X12_ticks_110 Y (q 20 0) (fun r M' => Kn r.toInt64 M') M7 := by
      unfold f_X12_ticks_110 f_X12_ticks_137
      exact ⟨fun z => by rw [z7] at z; exact absurd z (by decide), fun _ => fin⟩
    refine LOOP2_inv (fun _ M9 => M9 = M7) (fun _ _ => 0) ?_ _ _ rfl
    rintro x8 M9 again rfl _
    unfold L_X12_ticks_49
    exact ⟨fun _ => f110, fun _ => ⟨fun _ => f110, fun z => by rw [z7] at z; exact absurd z (by decide)⟩⟩
