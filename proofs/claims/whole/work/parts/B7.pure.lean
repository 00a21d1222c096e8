/-! log, find -/
def lgV (A : AS) (l : Nat) (w : Int32) : Int64 := if w = 0 then aS A l else if w = 1 then lE (aL A) l else if w = 2 then (nI (lS (aL A) l).length).toInt64 else smJ (lgF w) (BS (lS (aL A) l))
def rLog (nL : Nat) (v w : Int32) (A : AS) : Op := oB (LgO (nL + 1) v ∧ (0 ≤ w ∧ w ≤ 5)) (oB (lD (aL A) = 0) (oR 0 (lgV A v.toNatClampNeg w) A) (oR 2 0 A)) (oR 1 0 A)
theorem rLog_D (nL : Nat) (v w : Int32) (A : AS) : Det (rLog nL v w A) := Det_B (fun _ => Det_B (fun _ => Det_R _ _ _) (fun _ => Det_R _ _ _)) (fun _ => Det_R _ _ _)
theorem rLog_P {nL W nB n : Nat} {v w : Int32} {A : AS} (h : AI nL W nB n A) : Pre nL W nB n (rLog nL v w A) := by
  have up := AI_up h (Nat.le_add_right n KK)
  exact Pre_B (fun _ => Pre_B (fun _ => Pre_R up) (fun _ => Pre_R up)) (fun _ => Pre_R up)
theorem w05 {w : Int32} (h : 0 ≤ w ∧ w ≤ 5) : w = 0 ∨ w = 1 ∨ w = 2 ∨ w = 3 ∨ w = 4 ∨ w = 5 := by
  obtain ⟨k, hk, rfl⟩ := nI_of (Int32.not_lt.mpr h.1)
  have := (nI_cmp (b := 5) hk (by omega)).mp h.2
  rcases (show k = 0 ∨ k = 1 ∨ k = 2 ∨ k = 3 ∨ k = 4 ∨ k = 5 by omega) with rfl | rfl | rfl | rfl | rfl | rfl
  · exact Or.inl rfl
  · exact Or.inr (Or.inl rfl)
  · exact Or.inr (Or.inr (Or.inl rfl))
  · exact Or.inr (Or.inr (Or.inr (Or.inl rfl)))
  · exact Or.inr (Or.inr (Or.inr (Or.inr (Or.inl rfl))))
  · exact Or.inr (Or.inr (Or.inr (Or.inr (Or.inr rfl))))
theorem BSPS (S : List Sg) : (BS S).length = (PS S).length := by rw [← PS_snd, List.length_map]
theorem l_log {Y : Ly} {q : Nat → Nat → Nat} {nL W nB : Nat} {M : Mm} {A : AS} {n : Nat} {v w : Int32} {Kn : Int32 → Mm → Prop} (hC : SC Y q nL W nB) (hR : SR q nL (mR M)) (hA : Rsl Y q) (hS : CS q nL W nB M A) (hI : AI nL W nB n A) (hK : KC q nL W nB (rLog nL v w A) M Kn) : f_L_log Y (q 0 0) v w (q 21 0) M Kn := by
  have hd := sdims hC
  refine ⟨sk_0_0 hC, ?_⟩
  unfold f_X11_log f_X11_log_24
  have no : ¬ (LgO (nL + 1) v ∧ (0 ≤ w ∧ w ≤ 5)) → (Kn 1 M) := fun g => K_no (by decide) hK (Or.inr ⟨g, rfl⟩) hS (Ec_refl _ _ _)
  refine ⟨sk_0_0 hC, c_isLog hC hS.1 (fun g1 => ⟨fun z => absurd z (by decide), fun _ => s_within (lo := 0) (hi := 5) rfl rfl (fun g2 => ⟨fun z => absurd z (by decide), fun _ => ?_⟩) (fun g2 => ⟨fun _ => ⟨fun z => absurd rfl z, fun _ => Or.inl ⟨rfl, no (fun z => g2 z.2)⟩⟩, fun z => absurd rfl z⟩)⟩) (fun g1 => ⟨fun _ => ⟨fun z => absurd rfl z, fun _ => Or.inl ⟨rfl, no (fun z => g1 z.1)⟩⟩, fun z => absurd rfl z⟩)⟩
  unfold f_X11_log_25
  refine ⟨fun _ => ?_, fun z => absurd z (by decide)⟩
  have hCL := hS.2.2.2.2.2.1
  have hX : LgO (nL + 1) v ∧ (0 ≤ w ∧ w ≤ 5) := ⟨g1, g2⟩
  refine c_power hC hR hCL (fun g3 => ?_) (fun g3 => Or.inr ⟨rfl, K_no (by decide) hK (Or.inl ⟨hX, Or.inr ⟨g3, rfl⟩⟩) hS (Ec_refl _ _ _)⟩)
  have hG := hI.2.2.2.2.1
  have hLC := hCL.2.2.2.2.2 g3
  obtain ⟨l, hl, rfl⟩ := LgO_n (by omega) g1
  have cl : (nI l).toNatClampNeg = l := nI_clamp (by omega)
  have hl : l ≤ nL := by omega
  have fin : ∀ x, x = lgV A l w → yK Y (q 21 0) = 102 ∧ (vp_in 0 (yN Y (q 21 0)) ∧ (∀ M2 : Mm, M2 = sJ M (q 21 0) (m1 (mJ M (q 21 0)) (0 : Int32).toNatClampNeg x) → Kn 0 M2)) := by
    intro x hx
    refine K_st hC hA hK (Or.inl ⟨hX, Or.inl ⟨g3, ?_⟩⟩) hS (Ec_refl _ _ _)
    rw [cl, hx]; rfl
  refine ⟨_, sr_0_0_10 hR, sk_0_13 hC, _, sr_0_13_1 hR, sk_0_14 hC, by rw [sn_0_14 hC]; exact vp_in_nI (by omega) (by omega), _, by rw [cl]; exact sr_0_14 hR l hl, ?_⟩
  obtain ⟨a0, aT, ast, aen⟩ := hLC.2.2 l hl
  have ct := Geo_count hG hl
  refine ⟨fun z => ⟨sk_t_0 hC l hl, c_countBytes hC hR hG hLC hCL.2.1 hl (fin _ ?_)⟩, fun z => ⟨sk_t_0 hC l hl, fin _ ?_⟩, fun z => ⟨sk_t_0 hC l hl, fin _ ?_⟩, fun z => ⟨sk_t_0 hC l hl, fin _ ?_⟩, fun z => ⟨sk_t_0 hC l hl, fin _ ?_⟩, fun z => ⟨_, sr_0_0_10 hR, sk_0_13 hC, c_countRecs hC hR hG hLC hCL.2.1 hl (fin _ ?_)⟩⟩
  · have e5 : w = 5 := by
      rcases w05 g2 with h | h | h | h | h | h <;> first | exact h | (rw [h] at z; exact absurd z (by decide))
    subst e5
    show _ = smJ (lgF 5) (BS (lS (aL A) l))
    rw [smJ_3 _ (fun b hb => by have := (hI.2.2.2.2.2.1 l hl b hb).2.1; omega), BS_tot]
  · rw [z]; exact ast
  · rw [z]; exact aen
  · rw [z, aT.1]; rfl
  · rw [z, aT.2.1]
    show _ = smJ (lgF 3) (BS (lS (aL A) l))
    rw [smJ_1, BSPS, nI_l (by omega)]
  · rw [z]
    show _ = smJ (lgF 4) (BS (lS (aL A) l))
    rw [smJ_2]
theorem m_isLg {nL : Nat} {v w : Int32} (hw : w = nI nL) (hn : nL + 1 < 2 ^ 31) (g0 : ¬ v < 0) : ¬ w < v ↔ LgO (nL + 1) v := by
  subst hw
  rw [← LgO_s hn]
  exact ⟨fun g => ⟨Int32.not_lt.mp g0, Int32.not_lt.mp g⟩, fun g => Int32.not_lt.mpr g.2⟩
theorem n_log {Y : Ly} {q : Nat → Nat → Nat} {nL W nB : Nat} {M : Mm} {A : AS} {n : Nat} {v w : Int32} {Kn : Int64 → Mm → Prop} (hC : SC Y q nL W nB) (hM : SM q (mR M)) (hS : MS q nL W nB M A) (hI : AI nL W nB n A) (hK : KM q nL W nB (rLog nL v w A) M Kn) : f_X12_log Y (q 20 0) v w M Kn := by
  have hd := sdims hC
  have no : ¬ (LgO (nL + 1) v ∧ (0 ≤ w ∧ w ≤ 5)) → f_X12_log_27 Y (q 20 0) v w M Kn 0 := by
    intro g
    unfold f_X12_log_27
    exact ⟨sk_20_0 hC, m_goes hC (fun z => absurd rfl z) (fun z => absurd rfl z) (fun _ => ⟨fun z => absurd rfl z, fun _ => M_no hC (by decide) hK (Or.inr ⟨g, rfl⟩) hS⟩)⟩
  have w1 : mI M (q 20 0) 1 = nI nL := by obtain ⟨B, hp, ht, hLM⟩ := hS.2.2.2.2.1.1; exact hLM.1.1
  have w5 : mI M (q 20 0) 5 = lD (aL A) := hS.2.2.2.2.1.2.2.2
  unfold f_X12_log f_X12_log_26
  refine ⟨fun g => no (fun z => Int32.not_lt.mpr z.1.1 g), fun g0 => ⟨sk_20_0 hC, fun g => no (fun z => (m_isLg w1 (by omega) g0).mpr z.1 g), fun g1 => ⟨fun g => no (fun z => Int32.not_lt.mpr z.2.1 g), fun g2 => ⟨fun g => no (fun z => Int32.not_lt.mpr z.2.2 g), fun g3 => ?_⟩⟩⟩⟩
  have gl := (m_isLg w1 (by omega) g0).mp g1
  have gw : 0 ≤ w ∧ w ≤ 5 := ⟨Int32.not_lt.mp g2, Int32.not_lt.mp g3⟩
  unfold f_X12_log_27 f_X12_log_74
  refine ⟨sk_20_0 hC, m_goes hC (fun _ g => ⟨fun _ => ?_, fun z => absurd z (by decide)⟩) (fun _ g => ⟨fun z => absurd rfl z, fun _ => M_no hC (by decide) hK (Or.inl ⟨⟨gl, gw⟩, Or.inr ⟨by rw [← w5]; exact g, rfl⟩⟩) hS⟩) (fun z => absurd z (by decide))⟩
  rw [w5] at g
  have S2 := cd_MS hC hS 0
  have E2 : Ef q Pm20 M (cd q M 0) := (Ec_H (cd_Ec hC 0 rfl)).1
  obtain ⟨l, hl, rfl⟩ := LgO_n (by omega) gl
  have cl : (nI l).toNatClampNeg = l := nI_clamp (by omega)
  have hl : l ≤ nL := by omega
  have fin : ∀ x, x = lgV A l w → Kn x (cd q M 0) := by
    intro x hx
    refine hK (0, lgV A l w, A) _ _ (Or.inl ⟨⟨gl, gw⟩, Or.inl ⟨g, ?_⟩⟩) S2 E2 (cd_0 _ _ _) (fun _ => hx)
    rw [cl]; rfl
  obtain ⟨B, hp, ht, hLM⟩ := S2.2.2.2.2.1.1
  have hst := hLM.2.2.2.2.2.2.2.1 l hl
  refine ⟨fun z => m_logL (M := cd q M 0) hC hM hI.2.2.2.2.1 hLM hl (fin _ ?_), fun z => ⟨fun z0 => ⟨fun z1 => ⟨_, sm_28 hM, sk_20_29 hC, by rw [sn_20_29 hC]; exact vp_in_nI (by omega) (by omega), fin _ ?_⟩, fun z1 => ⟨_, sm_27 hM, sk_20_28 hC, by rw [sn_20_28 hC]; exact vp_in_nI (by omega) (by omega), fin _ ?_⟩⟩, fun z0 => ⟨_, sm_26 hM, sk_20_27 hC, by rw [sn_20_27 hC]; exact vp_in_nI (by omega) (by omega), fin _ ?_⟩⟩⟩
  · unfold lgV
    rcases w05 gw with h | h | h | h | h | h <;> rw [h] at z ⊢
    · exact absurd z (by decide)
    · exact absurd z (by decide)
    · exact absurd z (by decide)
    · rfl
    · rfl
    · rfl
  · unfold lgV
    rcases w05 gw with h | h | h | h | h | h
    · exact absurd h z0
    · exact absurd h z1
    · rw [if_neg z0, if_neg z1, if_pos h, cl, (hLM.2.2.2.2.2.2.1 l hl).1]
    · rw [h] at z; exact absurd (by decide) z
    · rw [h] at z; exact absurd (by decide) z
    · rw [h] at z; exact absurd (by decide) z
  · unfold lgV
    rw [if_neg z0, if_pos z1, cl]; exact hst.2
  · unfold lgV
    rw [if_pos z0, cl]; exact hst.1
noncomputable def rFind (nL : Nat) (v : Int32) (t : Int64) (A : AS) : Op := oB (LgO (nL + 1) v) (oB (lD (aL A) = 0) (oR 0 (fiB t (BS (lS (aL A) v.toNatClampNeg))) A) (oR 2 0 A)) (oR 1 0 A)
theorem rFind_D (nL : Nat) (v : Int32) (t : Int64) (A : AS) : Det (rFind nL v t A) := Det_B (fun _ => Det_B (fun _ => Det_R _ _ _) (fun _ => Det_R _ _ _)) (fun _ => Det_R _ _ _)
theorem rFind_P {nL W nB n : Nat} {v : Int32} {t : Int64} {A : AS} (h : AI nL W nB n A) : Pre nL W nB n (rFind nL v t A) := by
  have up := AI_up h (Nat.le_add_right n KK)
  exact Pre_B (fun _ => Pre_B (fun _ => Pre_R up) (fun _ => Pre_R up)) (fun _ => Pre_R up)
theorem l_find {Y : Ly} {q : Nat → Nat → Nat} {nL W nB : Nat} {M : Mm} {A : AS} {n : Nat} {v : Int32} {t : Int64} {Kn : Int32 → Mm → Prop} (hC : SC Y q nL W nB) (hR : SR q nL (mR M)) (hA : Rsl Y q) (hS : CS q nL W nB M A) (hI : AI nL W nB n A) (hK : KC q nL W nB (rFind nL v t A) M Kn) : f_L_find Y (q 0 0) v t (q 21 0) M Kn := by
  have hd := sdims hC
  refine ⟨sk_0_0 hC, ?_⟩
  unfold f_X11_find
  refine ⟨sk_0_0 hC, c_isLog hC hS.1 (fun g1 => ⟨fun _ => ?_, fun z => absurd z (by decide)⟩) (fun g1 => ⟨fun z => absurd rfl z, fun _ => Or.inl ⟨rfl, K_no (by decide) hK (Or.inr ⟨g1, rfl⟩) hS (Ec_refl _ _ _)⟩⟩)⟩
  have hCL := hS.2.2.2.2.2.1
  refine c_power hC hR hCL (fun g3 => ?_) (fun g3 => Or.inr ⟨rfl, K_no (by decide) hK (Or.inl ⟨g1, Or.inr ⟨g3, rfl⟩⟩) hS (Ec_refl _ _ _)⟩)
  obtain ⟨l, hl, rfl⟩ := LgO_n (by omega) g1
  have cl : (nI l).toNatClampNeg = l := nI_clamp (by omega)
  have hl : l ≤ nL := by omega
  refine ⟨_, sr_0_0_10 hR, _, sr_0_0_10 hR, sk_0_13 hC, _, sr_0_13_1 hR, sk_0_14 hC, by rw [sn_0_14 hC]; exact vp_in_nI (by omega) (by omega), _, by rw [cl]; exact sr_0_14 hR l hl, sk_0_13 hC, ?_⟩
  refine c_since hC hR hI.2.2.2.2.1 (hCL.2.2.2.2.2 g3) hCL.2.1 hI.2.2.2.2.2.1 hl (fun M' F => ?_)
  have E : Ec q Qs M M' := Ec_mono (Ec_Fr hC F) (fun a b j z => by unfold F1 at z; unfold Qs; omega)
  refine K_st hC hA hK (Or.inl ⟨g1, Or.inl ⟨g3, ?_⟩⟩) (CS_scr hC hS E) (Ec_mono E (fun a b j z => by unfold Qs at z; unfold Pc9; omega))
  rw [cl]; rfl
theorem n_find {Y : Ly} {q : Nat → Nat → Nat} {nL W nB : Nat} {M : Mm} {A : AS} {n : Nat} {v : Int32} {t : Int64} {Kn : Int64 → Mm → Prop} (hC : SC Y q nL W nB) (hM : SM q (mR M)) (hS : MS q nL W nB M A) (hI : AI nL W nB n A) (hK : KM q nL W nB (rFind nL v t A) M Kn) : f_X12_find Y (q 20 0) v t M Kn := by
  have hd := sdims hC
  have no : ¬ LgO (nL + 1) v → f_X12_find_18 Y (q 20 0) v t M Kn 0 := by
    intro g
    unfold f_X12_find_18
    exact ⟨sk_20_0 hC, m_goes hC (fun z => absurd rfl z) (fun z => absurd rfl z) (fun _ => ⟨fun z => absurd rfl z, fun _ => M_no hC (by decide) hK (Or.inr ⟨g, rfl⟩) hS⟩)⟩
  have w1 : mI M (q 20 0) 1 = nI nL := by obtain ⟨B, hp, ht, hLM⟩ := hS.2.2.2.2.1.1; exact hLM.1.1
  have w5 : mI M (q 20 0) 5 = lD (aL A) := hS.2.2.2.2.1.2.2.2
  unfold f_X12_find f_X12_find_17
  refine ⟨fun g => no (fun z => Int32.not_lt.mpr z.1 g), fun g0 => ⟨sk_20_0 hC, fun g => no (fun z => (m_isLg w1 (by omega) g0).mpr z g), fun g1 => ?_⟩⟩
  have gl := (m_isLg w1 (by omega) g0).mp g1
  unfold f_X12_find_18
  refine ⟨sk_20_0 hC, m_goes hC (fun _ g => ⟨fun _ => ?_, fun z => absurd z (by decide)⟩) (fun _ g => ⟨fun z => absurd rfl z, fun _ => M_no hC (by decide) hK (Or.inl ⟨gl, Or.inr ⟨by rw [← w5]; exact g, rfl⟩⟩) hS⟩) (fun z => absurd z (by decide))⟩
  rw [w5] at g
  have S2 := cd_MS hC hS 0
  have E2 : Ef q Pm20 M (cd q M 0) := (Ec_H (cd_Ec hC 0 rfl)).1
  obtain ⟨l, hl, rfl⟩ := LgO_n (by omega) gl
  have cl : (nI l).toNatClampNeg = l := nI_clamp (by omega)
  have hl : l ≤ nL := by omega
  obtain ⟨B, hp, ht, hLM⟩ := S2.2.2.2.2.1.1
  refine m_findL (M := cd q M 0) hC hM hI.2.2.2.2.1 hLM hI.2.2.2.2.2.1 hl (fun M' F => ?_)
  have E6 : EfH q Qm (cd q M 0) M' := EfH_mono (EfH_Scr hC F) (fun a b j z => by unfold P4 at z; unfold Qm; omega)
  have z6 : mI M' (q 20 0) 0 = 0 := by rw [((EfH_Scr hC F).1.1 20 0 0 (by unfold P4; omega)).1]; exact cd_0 _ _ _
  refine hK (0, _, A) _ _ (Or.inl ⟨gl, Or.inl ⟨g, rfl⟩⟩) (MS_scr hC S2 E6) (Ef_trans E2 (Ef_mono E6.1 (fun a b j z => z.1))) z6 (fun _ => ?_)
  rw [cl]
