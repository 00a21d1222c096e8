/-! groups: beat, commit, committed, share -/
def rBeat (v k t : Int32) (A : AS) : Op := oB (LgO 8 v ∧ LgO 8 k) (oB (lD (aL A) = 0) (oB ((gM (aG A) v.toNatClampNeg).testBit k.toNatClampNeg = true) (oB (t = nI (gN (aG A) v.toNatClampNeg)) (oR 0 (if (gJ (aG A) v.toNatClampNeg).testBit k.toNatClampNeg = true then 0 else 1 : Int32).toInt64 (xG A (heaG (aG A) (8 * v.toNatClampNeg + k.toNatClampNeg)) (aL A))) (oR 0 (-9) A)) (oR 0 (-8) A)) (oR 2 0 A)) (oR 1 0 A)
theorem rBeat_D (v k t : Int32) (A : AS) : Det (rBeat v k t A) := Det_B (fun _ => Det_B (fun _ => Det_B (fun _ => Det_B (fun _ => Det_R _ _ _) (fun _ => Det_R _ _ _)) (fun _ => Det_R _ _ _)) (fun _ => Det_R _ _ _)) (fun _ => Det_R _ _ _)
theorem rBeat_P {nL W nB n : Nat} {v k t : Int32} {A : AS} (h : AI nL W nB n A) : Pre nL W nB n (rBeat v k t A) := by
  have up := AI_up h (Nat.le_add_right n KK)
  exact Pre_B (fun g => Pre_B (fun _ => Pre_B (fun hm => Pre_B (fun _ => Pre_R ⟨up.1, up.2.1, up.2.2.1, GI_hea up.2.2.2.1, up.2.2.2.2⟩) (fun _ => Pre_R up)) (fun _ => Pre_R up)) (fun _ => Pre_R up)) (fun _ => Pre_R up)
theorem l_beat {Y : Ly} {q : Nat → Nat → Nat} {nL W nB : Nat} {M : Mm} {A : AS} {n : Nat} {v k t : Int32} {Kn : Int32 → Mm → Prop} (hC : SC Y q nL W nB) (hR : SR q nL (mR M)) (hA : Rsl Y q) (hS : CS q nL W nB M A) (hI : AI nL W nB n A) (hK : KC q nL W nB (rBeat v k t A) M Kn) : f_L_beat Y (q 0 0) v k t (q 21 0) M Kn := by
  have hd := sdims hC
  refine ⟨sk_0_0 hC, ?_⟩
  unfold f_X11_beat f_X11_beat_18
  have no : ¬ (LgO 8 v ∧ LgO 8 k) → Kn 1 M := fun g => K_no (by decide) hK (Or.inr ⟨g, rfl⟩) hS (Ec_refl _ _ _)
  refine c_eight (fun g1 => ⟨fun z => absurd z (by decide), fun _ => c_eight (fun g2 => ⟨fun z => absurd z (by decide), fun _ => ?_⟩) (fun g2 => ⟨fun _ => ⟨fun z => absurd rfl z, fun _ => Or.inl ⟨rfl, no (fun z => g2 z.2)⟩⟩, fun z => absurd rfl z⟩)⟩) (fun g1 => ⟨fun _ => ⟨fun z => absurd rfl z, fun _ => Or.inl ⟨rfl, no (fun z => g1 z.1)⟩⟩, fun z => absurd rfl z⟩)
  have hX : LgO 8 v ∧ LgO 8 k := ⟨g1, g2⟩
  have hCL := hS.2.2.2.2.2.1
  unfold f_X11_beat_19
  refine ⟨fun _ => ⟨sk_0_0 hC, c_power hC hR hCL (fun g3 => ⟨_, sr_0_0_12 hR, sk_0_26 hC, ?_⟩) (fun g3 => Or.inr ⟨rfl, K_no (by decide) hK (Or.inl ⟨hX, Or.inr ⟨g3, rfl⟩⟩) hS (Ec_refl _ _ _)⟩)⟩, fun z => absurd z (by decide)⟩
  obtain ⟨i, hi, rfl⟩ := LgO_n (by decide) g1
  obtain ⟨j, hj, rfl⟩ := LgO_n (by decide) g2
  have ci : (nI i).toNatClampNeg = i := nI_clamp (by omega)
  have cj : (nI j).toNatClampNeg = j := nI_clamp (by omega)
  refine c_hear hC hR hS.2.2.2.2.1 hI.2.2.2.1 hi hj (fun hm => ?_) (fun hm ht => ?_) (fun hm ht M' F2 G2 => ?_)
  · exact K_st hC hA hK (Or.inl ⟨hX, Or.inl ⟨g3, Or.inr ⟨by rw [ci, cj]; exact hm, rfl⟩⟩⟩) hS (Ec_refl _ _ _)
  · exact K_st hC hA hK (Or.inl ⟨hX, Or.inl ⟨g3, Or.inl ⟨by rw [ci, cj]; exact hm, Or.inr ⟨by rw [ci]; exact ht, rfl⟩⟩⟩⟩) hS (Ec_refl _ _ _)
  · have F3 : Fr q (Fc nL) M M' := Fr_mono F2 (fun a b z => by unfold Fg at z; unfold Fc; omega)
    refine K_st hC hA hK (Or.inl ⟨hX, Or.inl ⟨g3, Or.inl ⟨by rw [ci, cj]; exact hm, Or.inl ⟨by rw [ci]; exact ht, ?_⟩⟩⟩⟩) (CS_gr (L := aL A) hC hS F3 G2 (CL_fr hC hCL F2 (by unfold Fg; omega) (by unfold Fg; omega) (by unfold Fg; omega) (fun l c => by unfold Fg; omega)) (fun j _ => by rw [Fr_I hC F2 (by unfold Fg; omega)]) (fun z => z)) (PcG_9 hC F3)
    rw [ci, cj]; rfl
theorem n_beat {Y : Ly} {q : Nat → Nat → Nat} {nL W nB : Nat} {M : Mm} {A : AS} {n : Nat} {v k t : Int32} {Kn : Int64 → Mm → Prop} (hC : SC Y q nL W nB) (hM : SM q (mR M)) (hS : MS q nL W nB M A) (hI : AI nL W nB n A) (hK : KM q nL W nB (rBeat v k t A) M Kn) : f_X12_beat Y (q 20 0) v k t M (fun r M' => Kn r.toInt64 M') := by
  have w5 : mI M (q 20 0) 5 = lD (aL A) := hS.2.2.2.2.1.2.2.2
  have no : ¬ (LgO 8 v ∧ LgO 8 k) → f_X12_beat_20 Y (q 20 0) v k t (fun r M' => Kn r.toInt64 M') 0 M := by
    intro g
    unfold f_X12_beat_20
    exact ⟨sk_20_0 hC, m_goes hC (fun z => absurd rfl z) (fun z => absurd rfl z) (fun _ => ⟨fun z => absurd rfl z, fun _ => M_no hC (by decide) hK (Or.inr ⟨g, rfl⟩) hS⟩)⟩
  unfold f_X12_beat f_X12_beat_19
  refine m_isOne (fun g1 => ⟨fun z => absurd z (by decide), fun _ => m_isOne (fun g2 => ⟨fun z => absurd z (by decide), fun _ => ?_⟩) (fun g2 => ⟨fun _ => no (fun z => g2 z.2), fun z => absurd rfl z⟩)⟩) (fun g1 => ⟨fun _ => no (fun z => g1 z.1), fun z => absurd rfl z⟩)
  have hX : LgO 8 v ∧ LgO 8 k := ⟨g1, g2⟩
  have S2 := cd_MS hC hS 0
  have E2 : Ef q Pm20 M (cd q M 0) := (Ec_H (cd_Ec hC 0 rfl)).1
  by_cases g3 : lD (aL A) = 0
  · obtain ⟨i, hi, rfl⟩ := LgO_n (by decide) g1
    obtain ⟨j, hj, rfl⟩ := LgO_n (by decide) g2
    have ci : (nI i).toNatClampNeg = i := nI_clamp (by omega)
    have cj : (nI j).toNatClampNeg = j := nI_clamp (by omega)
    refine m_beat20 hC hM (by rw [w5]; exact g3) hS.2.2.2.1 hI.2.2.2.1 hi hj (fun hm => ?_) (fun hm ht => ?_) (fun hm ht M' F2 G2 => ?_)
    · exact hK (0, -8, A) _ _ (Or.inl ⟨hX, Or.inl ⟨g3, Or.inr ⟨by rw [ci, cj]; exact hm, rfl⟩⟩⟩) S2 E2 (cd_0 _ _ _) (fun _ => rfl)
    · exact hK (0, -9, A) _ _ (Or.inl ⟨hX, Or.inl ⟨g3, Or.inl ⟨by rw [ci, cj]; exact hm, Or.inr ⟨by rw [ci]; exact ht, rfl⟩⟩⟩⟩) S2 E2 (cd_0 _ _ _) (fun _ => rfl)
    · have F3 : Ef q PT (cd q M 0) M' := Ef_mono F2.1 (fun a b j z => Or.inl (Or.inr z))
      refine hK (0, _, _) _ _ (Or.inl ⟨hX, Or.inl ⟨g3, Or.inl ⟨by rw [ci, cj]; exact hm, Or.inl ⟨by rw [ci]; exact ht, rfl⟩⟩⟩⟩) (MS_gr (Y := Y) S2 F3 (by rw [ci, cj]; exact G2) (ML_ef S2.2.2.2.2.1 F2 (fun a b j z => by unfold PLg at z; unfold Pg; omega) (by unfold Pg; omega) (by unfold Pg; omega) (by unfold Pg; omega))) (Ef_trans E2 (PT_20 F3)) (by rw [PT_0 F3]; exact cd_0 _ _ _) (fun _ => ?_)
      rw [ci, cj]
  · unfold f_X12_beat_20
    exact ⟨sk_20_0 hC, m_goes hC (fun _ g => absurd (by rw [← w5]; exact g) g3) (fun _ g => ⟨fun z => absurd rfl z, fun _ => M_no hC (by decide) hK (Or.inl ⟨hX, Or.inr ⟨g3, rfl⟩⟩) hS⟩) (fun z => absurd z (by decide))⟩
def rComI (nL W nB i j m : Nat) (t : Int32) (off : Int64) (A : AS) : Op := oB ((gM (aG A) i).testBit j = true) (oB (t = nI (gN (aG A) i)) (oB (gS (aG A) i = 2) (oB (isO (gM (aG A) i) j m = true) (oB (aS A m ≤ off ∧ off ≤ lE (aL A) m) (oE (fun x : LSt × Int32 => ApR nL W nB nL (comB i m (gT (aG A)) off) (aL A) x.1 x.2) (fun x => oR 0 (if x.2 = 1 then 0 else x.2 : Int32).toInt64 (xG A (if x.2 = 1 then heaG (aG A) (8 * i + j) else aG A) x.1))) (oR 0 (-12) A)) (oR 0 (-11) A)) (oR 0 (-10) A)) (oR 0 (-9) A)) (oR 0 (-8) A)
def rCommit (nL W nB : Nat) (v k t l : Int32) (off : Int64) (A : AS) : Op := oB (LgO 8 v ∧ LgO 8 k ∧ LgO nL l) (oB (lD (aL A) = 0) (rComI nL W nB v.toNatClampNeg k.toNatClampNeg l.toNatClampNeg t off A) (oR 2 0 A)) (oR 1 0 A)
theorem comB_61 (g l tm : Nat) (v : Int64) : 61 ≤ (comB g l tm v).length := by unfold comB; rw [noteB_len]; decide
theorem rCommit_D (nL W nB : Nat) (v k t l : Int32) (off : Int64) (A : AS) : Det (rCommit nL W nB v k t l off A) := Det_B (fun _ => Det_B (fun _ => Det_B (fun _ => Det_B (fun _ => Det_B (fun _ => Det_B (fun _ => Det_B (fun _ => Det_E (fun x y h h' => Prod.ext (ApR_fun (comB_61 _ _ _ _) h h').1 (ApR_fun (comB_61 _ _ _ _) h h').2) (fun _ _ => Det_R _ _ _)) (fun _ => Det_R _ _ _)) (fun _ => Det_R _ _ _)) (fun _ => Det_R _ _ _)) (fun _ => Det_R _ _ _)) (fun _ => Det_R _ _ _)) (fun _ => Det_R _ _ _)) (fun _ => Det_R _ _ _)
theorem rCommit_P {Y : Ly} {q : Nat → Nat → Nat} {nL W nB : Nat} {n : Nat} {v k t l : Int32} {off : Int64} {A : AS} (hC : SC Y q nL W nB) (h : AI nL W nB n A) (hn : n < 2 ^ 39) : Pre nL W nB n (rCommit nL W nB v k t l off A) := by
  have hd := sdims hC
  have up := AI_up h (Nat.le_add_right n KK)
  refine Pre_B (fun g => Pre_B (fun _ => Pre_B (fun _ => Pre_B (fun _ => Pre_B (fun _ => Pre_B (fun _ => Pre_B (fun _ => Pre_E (fun x hx => Pre_R ?_)) (fun _ => Pre_R up)) (fun _ => Pre_R up)) (fun _ => Pre_R up)) (fun _ => Pre_R up)) (fun _ => Pre_R up)) (fun _ => Pre_R up)) (fun _ => Pre_R up)
  obtain ⟨i, hi, rfl⟩ := LgO_n (by decide) g.1
  obtain ⟨m, hm, rfl⟩ := LgO_n (by omega) g.2.2
  rw [nI_clamp (n := i) (by omega), nI_clamp (n := m) (by omega)] at hx
  refine ⟨up.1, up.2.1, up.2.2.1, ?_, ?_⟩
  · show GI _ (if x.2 = 1 then heaG (aG A) _ else aG A)
    split
    · exact GI_hea up.2.2.2.1
    · exact up.2.2.2.1
  · refine IL_up (ApR_IL h.2.2.2.2 (Nat.le_refl _) (noteB_ok h.2.2.2.1.1) (by unfold comB at *; rw [noteB_len]; omega) hn (fun _ => ?_) hx) (by unfold KK; omega)
    exact noteB_Nt hi (Or.inl (by omega)) (fun z => by omega)
theorem l_commit {Y : Ly} {q : Nat → Nat → Nat} {nL W nB : Nat} {M : Mm} {A : AS} {n : Nat} {v k t l : Int32} {off : Int64} {Kn : Int32 → Mm → Prop} (hC : SC Y q nL W nB) (hR : SR q nL (mR M)) (hA : Rsl Y q) (hS : CS q nL W nB M A) (hI : AI nL W nB n A) (hn : n < 2 ^ 30) (hK : KC q nL W nB (rCommit nL W nB v k t l off A) M Kn) : f_L_commit Y (q 0 0) v k t l off (q 21 0) M Kn := by
  have hd := sdims hC
  refine ⟨sk_0_0 hC, ?_⟩
  unfold f_X11_commit f_X11_commit_27
  have no : ¬ (LgO 8 v ∧ LgO 8 k ∧ LgO nL l) → Kn 1 M := fun g => K_no (by decide) hK (Or.inr ⟨g, rfl⟩) hS (Ec_refl _ _ _)
  refine c_eight (fun g1 => ⟨fun z => absurd z (by decide), fun _ => c_eight (fun g2 => ⟨fun z => absurd z (by decide), fun _ => ⟨sk_0_0 hC, c_isFor hC hS.1 (fun g4 => ⟨fun z => absurd z (by decide), fun _ => ?_⟩) (fun g4 => ⟨fun _ => ⟨fun z => absurd rfl z, fun _ => Or.inl ⟨rfl, no (fun z => g4 z.2.2)⟩⟩, fun z => absurd rfl z⟩)⟩⟩) (fun g2 => ⟨fun _ => ⟨fun z => absurd rfl z, fun _ => Or.inl ⟨rfl, no (fun z => g2 z.2.1)⟩⟩, fun z => absurd rfl z⟩)⟩) (fun g1 => ⟨fun _ => ⟨fun z => absurd rfl z, fun _ => Or.inl ⟨rfl, no (fun z => g1 z.1)⟩⟩, fun z => absurd rfl z⟩)
  have hX : LgO 8 v ∧ LgO 8 k ∧ LgO nL l := ⟨g1, g2, g4⟩
  have hCL := hS.2.2.2.2.2.1
  unfold f_X11_commit_28
  refine ⟨fun _ => ⟨sk_0_0 hC, c_power hC hR hCL (fun g3 => ⟨_, sr_0_0_12 hR, sk_0_26 hC, ?_⟩) (fun g3 => Or.inr ⟨rfl, K_no (by decide) hK (Or.inl ⟨hX, Or.inr ⟨g3, rfl⟩⟩) hS (Ec_refl _ _ _)⟩)⟩, fun z => absurd z (by decide)⟩
  obtain ⟨i, hi, rfl⟩ := LgO_n (by decide) g1
  obtain ⟨j, hj, rfl⟩ := LgO_n (by decide) g2
  obtain ⟨m, hm, rfl⟩ := LgO_n (by omega) g4
  have ci : (nI i).toNatClampNeg = i := nI_clamp (by omega)
  have cj : (nI j).toNatClampNeg = j := nI_clamp (by omega)
  have cm : (nI m).toNatClampNeg = m := nI_clamp (by omega)
  obtain ⟨e, he1, he2⟩ := end_of hI (by omega)
  have XX : ∀ o, rComI nL W nB i j m t off A o → rCommit nL W nB (nI i) (nI j) t (nI m) off A o := fun o h => Or.inl ⟨hX, Or.inl ⟨g3, by rw [ci, cj, cm]; exact h⟩⟩
  refine c_refusal hC hR hS.2.2.2.2.1 hI.2.2.2.1 hi hj ?_
  by_cases hb : (gM (aG A) i).testBit j = true
  · rw [if_pos hb]
    by_cases ht : t = nI (gN (aG A) i)
    · rw [if_pos ht]
      refine ⟨fun _ => ⟨_, sr_0_0_12 hR, sk_0_26 hC, ?_⟩, fun z => absurd rfl z⟩
      refine c_commit hC hR hI.2.2.2.2.1 hCL g3 (hlf_of hI g3) hS.2.2.2.2.1 hI.2.2.2.1 hi hj hm he1 he2 hb (fun h10 => ?_) (fun h2 h11 => ?_) (fun h2 h3 h12 => ?_) (fun h2 h3 h4 L' r M' hs G2 C2 F2 hbk => ?_)
      · exact K_st hC hA hK (XX (0, -10, A) (Or.inl ⟨hb, Or.inl ⟨ht, Or.inr ⟨h10, rfl⟩⟩⟩)) hS (Ec_refl _ _ _)
      · exact K_st hC hA hK (XX (0, -11, A) (Or.inl ⟨hb, Or.inl ⟨ht, Or.inl ⟨h2, Or.inr ⟨h11, rfl⟩⟩⟩⟩)) hS (Ec_refl _ _ _)
      · exact K_st hC hA hK (XX (0, -12, A) (Or.inl ⟨hb, Or.inl ⟨ht, Or.inl ⟨h2, Or.inl ⟨h3, Or.inr ⟨h12, rfl⟩⟩⟩⟩⟩)) hS (Ec_refl _ _ _)
      · exact K_st hC hA hK (XX (0, _, _) (Or.inl ⟨hb, Or.inl ⟨ht, Or.inl ⟨h2, Or.inl ⟨h3, Or.inl ⟨h4, (L', r), hs, rfl⟩⟩⟩⟩⟩)) (CS_gr hC hS F2 G2 C2 hbk (fun _ => g3)) (PcG_9 hC F2)
    · rw [if_neg ht]
      refine ⟨fun z => absurd z (by decide), fun _ => ?_⟩
      exact K_st hC hA hK (XX (0, -9, A) (Or.inl ⟨hb, Or.inr ⟨ht, rfl⟩⟩)) hS (Ec_refl _ _ _)
  · rw [if_neg hb]
    refine ⟨fun z => absurd z (by decide), fun _ => ?_⟩
    exact K_st hC hA hK (XX (0, -8, A) (Or.inr ⟨hb, rfl⟩)) hS (Ec_refl _ _ _)
theorem n_commit {Y : Ly} {q : Nat → Nat → Nat} {nL W nB : Nat} {M : Mm} {A : AS} {n : Nat} {v k t l : Int32} {off : Int64} {Kn : Int64 → Mm → Prop} (hC : SC Y q nL W nB) (hM : SM q (mR M)) (hS : MS q nL W nB M A) (hI : AI nL W nB n A) (hK : KM q nL W nB (rCommit nL W nB v k t l off A) M Kn) : f_X12_commit Y (q 20 0) v k t l off M (fun r M' => Kn r.toInt64 M') := by
  have hd := sdims hC
  have w1 : mI M (q 20 0) 1 = nI nL := by obtain ⟨B, hp, ht, hLM⟩ := hS.2.2.2.2.1.1; exact hLM.1.1
  have w5 : mI M (q 20 0) 5 = lD (aL A) := hS.2.2.2.2.1.2.2.2
  have no : ¬ (LgO 8 v ∧ LgO 8 k ∧ LgO nL l) → f_X12_commit_34 Y (q 20 0) v k t l off (fun r M' => Kn r.toInt64 M') 0 M := by
    intro g
    unfold f_X12_commit_34
    exact ⟨sk_20_0 hC, m_goes hC (fun z => absurd rfl z) (fun z => absurd rfl z) (fun _ => ⟨fun z => absurd rfl z, fun _ => M_no hC (by decide) hK (Or.inr ⟨g, rfl⟩) hS⟩)⟩
  unfold f_X12_commit f_X12_commit_33
  refine m_isOne (fun g1 => ⟨fun z => absurd z (by decide), fun _ => m_isOne (fun g2 => ⟨fun z => absurd z (by decide), fun _ => ?_⟩) (fun g2 => ⟨fun _ => no (fun z => g2 z.2.1), fun z => absurd rfl z⟩)⟩) (fun g1 => ⟨fun _ => no (fun z => g1 z.1), fun z => absurd rfl z⟩)
  rw [w1]
  refine ⟨fun g => no (fun z => Int32.not_lt.mpr z.2.2.1 g), fun g5 => ⟨sk_20_0 hC, fun g => no (fun z => Int32.not_lt.mpr g z.2.2.2), fun g6 => ?_⟩⟩
  have g4 : LgO nL l := ⟨Int32.not_lt.mp g5, Int32.not_le.mp g6⟩
  have hX : LgO 8 v ∧ LgO 8 k ∧ LgO nL l := ⟨g1, g2, g4⟩
  have S2 := cd_MS hC hS 0
  have E2 : Ef q Pm20 M (cd q M 0) := (Ec_H (cd_Ec hC 0 rfl)).1
  by_cases g3 : lD (aL A) = 0
  · obtain ⟨i, hi, rfl⟩ := LgO_n (by decide) g1
    obtain ⟨j, hj, rfl⟩ := LgO_n (by decide) g2
    obtain ⟨m, hm, rfl⟩ := LgO_n (by omega) g4
    have ci : (nI i).toNatClampNeg = i := nI_clamp (by omega)
    have cj : (nI j).toNatClampNeg = j := nI_clamp (by omega)
    have cm : (nI m).toNatClampNeg = m := nI_clamp (by omega)
    have XX : ∀ o, rComI nL W nB i j m t off A o → rCommit nL W nB (nI i) (nI j) t (nI m) off A o := fun o h => Or.inl ⟨hX, Or.inl ⟨g3, by rw [ci, cj, cm]; exact h⟩⟩
    refine m_commit34 hC hM hI.2.2.2.2.1 hS.2.2.2.2.1 g3 (hlf_of hI g3) hS.2.2.2.1 hI.2.2.2.1 hi hj hm (fun hb => ?_) (fun hb ht => ?_) (fun hb ht h10 => ?_) (fun hb ht h2 h11 => ?_) (fun hb ht h2 h3 h12 => ?_) (fun hb ht h2 h3 h4 L' r M' hs G2 C2 F2 => ?_)
    · exact hK (0, -8, A) _ _ (XX _ (Or.inr ⟨hb, rfl⟩)) S2 E2 (cd_0 _ _ _) (fun _ => rfl)
    · exact hK (0, -9, A) _ _ (XX _ (Or.inl ⟨hb, Or.inr ⟨ht, rfl⟩⟩)) S2 E2 (cd_0 _ _ _) (fun _ => rfl)
    · exact hK (0, -10, A) _ _ (XX _ (Or.inl ⟨hb, Or.inl ⟨ht, Or.inr ⟨h10, rfl⟩⟩⟩)) S2 E2 (cd_0 _ _ _) (fun _ => rfl)
    · exact hK (0, -11, A) _ _ (XX _ (Or.inl ⟨hb, Or.inl ⟨ht, Or.inl ⟨h2, Or.inr ⟨h11, rfl⟩⟩⟩⟩)) S2 E2 (cd_0 _ _ _) (fun _ => rfl)
    · exact hK (0, -12, A) _ _ (XX _ (Or.inl ⟨hb, Or.inl ⟨ht, Or.inl ⟨h2, Or.inl ⟨h3, Or.inr ⟨h12, rfl⟩⟩⟩⟩⟩)) S2 E2 (cd_0 _ _ _) (fun _ => rfl)
    · have F3 := PG_T F2
      exact hK (0, _, _) _ _ (XX (0, (if r = 1 then 0 else r : Int32).toInt64, _) (Or.inl ⟨hb, Or.inl ⟨ht, Or.inl ⟨h2, Or.inl ⟨h3, Or.inl ⟨h4, (L', r), hs, rfl⟩⟩⟩⟩⟩)) (MS_gr (Y := Y) S2 F3 G2 C2) (Ef_trans E2 (PT_20 F3)) (by rw [PT_0 F3]; exact cd_0 _ _ _) (fun _ => rfl)
  · unfold f_X12_commit_34
    exact ⟨sk_20_0 hC, m_goes hC (fun _ g => absurd (by rw [← w5]; exact g) g3) (fun _ g => ⟨fun z => absurd rfl z, fun _ => M_no hC (by decide) hK (Or.inl ⟨hX, Or.inr ⟨g3, rfl⟩⟩) hS⟩) (fun z => absurd z (by decide))⟩
