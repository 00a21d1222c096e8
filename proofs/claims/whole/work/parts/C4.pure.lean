/-! groups: join, leave, beat -/
theorem c_eight {Y : Ly} {v : Int32} {M : Mm} {Kn : Int32 → Mm → Prop} (h1 : LgO 8 v → Kn 1 M) (h0 : ¬ LgO 8 v → Kn 0 M) : f_X11_isOfEight Y v M Kn := by
  unfold f_X11_isOfEight
  have e := LgO_m (n := 8) (v := v) (by decide) (by decide)
  exact s_within (lo := 0) (hi := nI 8 - 1) rfl rfl (fun g => ⟨Or.inr rfl, h1 (e.mp g)⟩) (fun g => ⟨Or.inl rfl, h0 (fun z => g (e.mpr z))⟩)
theorem m_isOne {Y : Ly} {v : Int32} {M : Mm} {Kn : Int32 → Mm → Prop} (h1 : LgO 8 v → Kn 1 M) (h0 : ¬ LgO 8 v → Kn 0 M) : f_X12_isOne Y v M Kn := by
  unfold f_X12_isOne f_X12_isOne_14 f_X12_isOne_15
  exact ⟨fun g => ⟨Or.inl rfl, h0 (fun z => Int32.not_lt.mpr z.1 g)⟩, fun g => ⟨fun g2 => ⟨Or.inl rfl, h0 (fun z => Int32.not_lt.mpr g2 z.2)⟩, fun g2 => ⟨Or.inr rfl, h1 ⟨Int32.not_lt.mp g, Int32.not_le.mp g2⟩⟩⟩⟩
def xG (A : AS) (G : GSt) (L : LSt) : AS := (A.1, A.2.1, A.2.2.1, G, A.2.2.2.2.1, L, A.2.2.2.2.2.2)
def PcGq (nL : Nat) : Nat → Nat → Nat → Prop := fun a b _ => Fc nL a b
theorem CS_gr {Y : Ly} {q : Nat → Nat → Nat} {nL W nB : Nat} {M M' : Mm} {A : AS} {G : GSt} {L : LSt} (hC : SC Y q nL W nB) (h : CS q nL W nB M A) (F : Fr q (Fc nL) M M') (hG : GC q M' G) (hL : CL q nL W nB M' (aS A) L) (hb : ∀ j, j < 1024 → mI M' (q 0 11) j = mI M (q 0 11) j) (hD : lD L = 0 → lD (aL A) = 0) : CS q nL W nB M' (xG A G L) := by
  have hd := sdims hC
  have E : Ec q (PcGq nL) M M' := Ec_Fr hC F
  obtain ⟨h0, h1, h2, h3, h4, h5, h6⟩ := h
  exact ⟨by rw [(E.1 0 0 0 (by unfold PcGq Fc; omega)).1]; exact h0, TpC_ec h1 E (by unfold PcGq Fc; omega) (fun j => by unfold PcGq Fc; omega), DrC_ec h2 E (fun j => by unfold PcGq Fc; omega) (fun j => by unfold PcGq Fc; omega), FetC_ec h3 E (fun j => by unfold PcGq Fc; omega) (fun j => by unfold PcGq Fc; omega) (fun j => by unfold PcGq Fc; omega), hG, hL, NuC_L (NuC_ec h6 E hb (by unfold PcGq Fc; omega) (by unfold PcGq Fc; omega)) hD⟩
theorem PcG_9 {Y : Ly} {q : Nat → Nat → Nat} {nL W nB : Nat} {M M' : Mm} (hC : SC Y q nL W nB) (F : Fr q (Fc nL) M M') : Ec q Pc9 M M' := by
  have hd := sdims hC
  have ha : ∀ a b, Fc nL a b → a ≤ 9 := fun a b z => by unfold Fc at z; omega
  exact Ec_mono (Ec_Fr hC F) (fun a b j z => ha a b z)
theorem MS_gr {Y : Ly} {q : Nat → Nat → Nat} {nL W nB : Nat} {M M' : Mm} {A : AS} {G : GSt} {L : LSt} (h : MS q nL W nB M A) (F : Ef q PT M M') (hG : GM q M' G) (hL : ML q nL W nB M' (aS A) L) : MS q nL W nB M' (xG A G L) := by
  obtain ⟨h1, h2, h3, h4, h5, h6, h7⟩ := h
  have no : ∀ b j, ¬ (fun a b j => PT a b j) 20 b j ↔ ¬ PT 20 b j := fun b j => Iff.rfl
  exact ⟨TpM_ec h1 F (by unfold PT PG PN PA Pg; omega) (fun j => by unfold PT PG PN PA Pg; omega), DrM_ec h2 F (by unfold PT PG PN PA Pg; omega) (fun b j _ _ => by unfold PT PG PN PA Pg; omega), FetM_ec h3 F (by unfold PT PG PN PA Pg; omega) (fun j => by unfold PT PG PN PA Pg; omega), hG, hL, by rw [(F.1 20 0 8 (by unfold PT PG PN PA Pg; omega)).2]; exact h6, by rw [(F.1 20 0 9 (by unfold PT PG PN PA Pg; omega)).2]; exact h7⟩
theorem PT_20 {q : Nat → Nat → Nat} {M M' : Mm} (F : Ef q PT M M') : Ef q Pm20 M M' := Ef_mono F (fun a b j z => by unfold PT PG PN PA Pg at z; unfold Pm20; omega)
theorem PT_0 {q : Nat → Nat → Nat} {M M' : Mm} (F : Ef q PT M M') : mI M' (q 20 0) 0 = mI M (q 20 0) 0 := (F.1 20 0 0 (by unfold PT PG PN PA Pg; omega)).1
theorem PG_T {q : Nat → Nat → Nat} {M M' : Mm} (F : Ef q PG M M') : Ef q PT M M' := Ef_mono F (fun a b j z => Or.inl z)
theorem end_of {nL W nB n : Nat} {A : AS} (hI : AI nL W nB n A) (hn : n < 2 ^ 39) : ∃ e, lE (aL A) nL = lN e ∧ e < 2 ^ 62 := by
  obtain ⟨s, e, _, a2, a3, _⟩ := hI.2.2.2.2.2.2.1 nL (Nat.le_refl _)
  exact ⟨e, a2, by omega⟩
def rJoin (nL W nB : Nat) (v k : Int32) (A : AS) : Op := oB (LgO 8 v ∧ LgO 8 k) (oB (lD (aL A) = 0) (oE (fun x : GSt × LSt => SetR nL W nB v.toNatClampNeg (joinG (aG A) v.toNatClampNeg k.toNatClampNeg) (aL A) x.1 x.2) (fun x => oR 0 (if lD x.2 = 0 then (if gS x.1 v.toNatClampNeg = 2 then nI (gN x.1 v.toNatClampNeg) else -1) else -3 : Int32).toInt64 (xG A x.1 x.2))) (oR 2 0 A)) (oR 1 0 A)
theorem Set_fun {nL W nB g : Nat} {G : GSt} {L : LSt} (x y : GSt × LSt) (h : SetR nL W nB g G L x.1 x.2) (h' : SetR nL W nB g G L y.1 y.2) : x = y := Prod.ext (SetR_fun h h').1 (SetR_fun h h').2
theorem rJoin_D (nL W nB : Nat) (v k : Int32) (A : AS) : Det (rJoin nL W nB v k A) := Det_B (fun _ => Det_B (fun _ => Det_E Set_fun (fun _ _ => Det_R _ _ _)) (fun _ => Det_R _ _ _)) (fun _ => Det_R _ _ _)
theorem AI_set {Y : Ly} {q : Nat → Nat → Nat} {nL W nB : Nat} {n g : Nat} {G : GSt} {x : GSt × LSt} {A : AS} (hC : SC Y q nL W nB) (h : AI nL W nB n A) (hn : n < 2 ^ 39) (hG : GI n G) (hg : g < 8) (hx : SetR nL W nB g G (aL A) x.1 x.2) : AI nL W nB (n + KK) (xG A x.1 x.2) := by
  have hd := sdims hC
  have up := AI_up h (Nat.le_add_right n KK)
  exact ⟨up.1, up.2.1, up.2.2.1, GI_up (SetR_GI hx hG) (by unfold KK; omega), IL_up (SetR_IL h.2.2.2.2 hG hg hd.2.2.1 hn hx) (by unfold KK; omega)⟩
theorem rJoin_P {Y : Ly} {q : Nat → Nat → Nat} {nL W nB : Nat} {n : Nat} {v k : Int32} {A : AS} (hC : SC Y q nL W nB) (h : AI nL W nB n A) (hn : n < 2 ^ 39) : Pre nL W nB n (rJoin nL W nB v k A) := by
  have up := AI_up h (Nat.le_add_right n KK)
  refine Pre_B (fun g => Pre_B (fun _ => Pre_E (fun x hx => Pre_R ?_)) (fun _ => Pre_R up)) (fun _ => Pre_R up)
  obtain ⟨i, hi, rfl⟩ := LgO_n (by decide) g.1
  obtain ⟨j, hj, rfl⟩ := LgO_n (by decide) g.2
  rw [nI_clamp (by omega), nI_clamp (by omega)] at hx
  exact AI_set hC h hn (GI_join h.2.2.2.1 hi hj) hi hx
theorem l_join {Y : Ly} {q : Nat → Nat → Nat} {nL W nB : Nat} {M : Mm} {A : AS} {n : Nat} {v k : Int32} {Kn : Int32 → Mm → Prop} (hC : SC Y q nL W nB) (hR : SR q nL (mR M)) (hA : Rsl Y q) (hS : CS q nL W nB M A) (hI : AI nL W nB n A) (hn : n < 2 ^ 30) (hK : KC q nL W nB (rJoin nL W nB v k A) M Kn) : f_L_join Y (q 0 0) v k (q 21 0) M Kn := by
  refine ⟨sk_0_0 hC, ?_⟩
  unfold f_X11_join f_X11_join_18
  have no : ¬ (LgO 8 v ∧ LgO 8 k) → Kn 1 M := fun g => K_no (by decide) hK (Or.inr ⟨g, rfl⟩) hS (Ec_refl _ _ _)
  refine c_eight (fun g1 => ⟨fun z => absurd z (by decide), fun _ => c_eight (fun g2 => ⟨fun z => absurd z (by decide), fun _ => ?_⟩) (fun g2 => ⟨fun _ => ⟨fun z => absurd rfl z, fun _ => Or.inl ⟨rfl, no (fun z => g2 z.2)⟩⟩, fun z => absurd rfl z⟩)⟩) (fun g1 => ⟨fun _ => ⟨fun z => absurd rfl z, fun _ => Or.inl ⟨rfl, no (fun z => g1 z.1)⟩⟩, fun z => absurd rfl z⟩)
  have hX : LgO 8 v ∧ LgO 8 k := ⟨g1, g2⟩
  have hCL := hS.2.2.2.2.2.1
  unfold f_X11_join_19
  refine ⟨fun _ => ⟨sk_0_0 hC, c_power hC hR hCL (fun g3 => ⟨_, sr_0_0_12 hR, sk_0_26 hC, ?_⟩) (fun g3 => Or.inr ⟨rfl, K_no (by decide) hK (Or.inl ⟨hX, Or.inr ⟨g3, rfl⟩⟩) hS (Ec_refl _ _ _)⟩)⟩, fun z => absurd z (by decide)⟩
  obtain ⟨i, hi, rfl⟩ := LgO_n (by decide) g1
  obtain ⟨j, hj, rfl⟩ := LgO_n (by decide) g2
  obtain ⟨e, he1, he2⟩ := end_of hI (by omega)
  have ci : (nI i).toNatClampNeg = i := nI_clamp (by omega)
  have cj : (nI j).toNatClampNeg = j := nI_clamp (by omega)
  refine c_enter hC hR hI.2.2.2.2.1 hCL g3 (hlf_of hI g3) hS.2.2.2.2.1 hI.2.2.2.1 hn hi hj he1 he2 (fun G' L' M' hs G2 C2 F2 hb => ?_)
  refine K_st hC hA hK (Or.inl ⟨hX, Or.inl ⟨g3, (G', L'), by rw [ci, cj]; exact hs, ?_⟩⟩) (CS_gr hC hS F2 G2 C2 hb (fun _ => g3)) (PcG_9 hC F2)
  rw [ci]; rfl
theorem n_join {Y : Ly} {q : Nat → Nat → Nat} {nL W nB : Nat} {M : Mm} {A : AS} {n : Nat} {v k : Int32} {Kn : Int64 → Mm → Prop} (hC : SC Y q nL W nB) (hM : SM q (mR M)) (hS : MS q nL W nB M A) (hI : AI nL W nB n A) (hn : n < 2 ^ 30) (hK : KM q nL W nB (rJoin nL W nB v k A) M Kn) : f_X12_join Y (q 20 0) v k M (fun r M' => Kn r.toInt64 M') := by
  have w5 : mI M (q 20 0) 5 = lD (aL A) := hS.2.2.2.2.1.2.2.2
  have no : ¬ (LgO 8 v ∧ LgO 8 k) → f_X12_join_20 Y (q 20 0) v k (fun r M' => Kn r.toInt64 M') 0 M := by
    intro g
    unfold f_X12_join_20
    exact ⟨sk_20_0 hC, m_goes hC (fun z => absurd rfl z) (fun z => absurd rfl z) (fun _ => ⟨fun z => absurd rfl z, fun _ => M_no hC (by decide) hK (Or.inr ⟨g, rfl⟩) hS⟩)⟩
  unfold f_X12_join f_X12_join_19
  refine m_isOne (fun g1 => ⟨fun z => absurd z (by decide), fun _ => m_isOne (fun g2 => ⟨fun z => absurd z (by decide), fun _ => ?_⟩) (fun g2 => ⟨fun _ => no (fun z => g2 z.2), fun z => absurd rfl z⟩)⟩) (fun g1 => ⟨fun _ => no (fun z => g1 z.1), fun z => absurd rfl z⟩)
  have hX : LgO 8 v ∧ LgO 8 k := ⟨g1, g2⟩
  by_cases g3 : lD (aL A) = 0
  · obtain ⟨i, hi, rfl⟩ := LgO_n (by decide) g1
    obtain ⟨j, hj, rfl⟩ := LgO_n (by decide) g2
    have ci : (nI i).toNatClampNeg = i := nI_clamp (by omega)
    have cj : (nI j).toNatClampNeg = j := nI_clamp (by omega)
    refine m_join20 hC hM hI.2.2.2.2.1 hS.2.2.2.2.1 g3 (hlf_of hI g3) hS.2.2.2.1 hI.2.2.2.1 hn hi hj (fun G' L' M' hs G2 C2 F2 => ?_)
    have F3 := PG_T F2
    refine hK (0, _, _) _ _ (Or.inl ⟨hX, Or.inl ⟨g3, (G', L'), by rw [ci, cj]; exact hs, rfl⟩⟩) (MS_gr (Y := Y) (cd_MS hC hS 0) F3 G2 C2) (Ef_trans (Ec_H (cd_Ec hC 0 rfl)).1 (PT_20 F3)) (by rw [PT_0 F3]; exact cd_0 _ _ _) (fun _ => ?_)
    rw [ci]
  · unfold f_X12_join_20
    exact ⟨sk_20_0 hC, m_goes hC (fun _ g => absurd (by rw [← w5]; exact g) g3) (fun _ g => ⟨fun z => absurd rfl z, fun _ => M_no hC (by decide) hK (Or.inl ⟨hX, Or.inr ⟨g3, rfl⟩⟩) hS⟩) (fun z => absurd z (by decide))⟩
def rLeave (nL W nB : Nat) (v k : Int32) (A : AS) : Op := oB (LgO 8 v ∧ LgO 8 k) (oB (lD (aL A) = 0) (oB ((gM (aG A) v.toNatClampNeg).testBit k.toNatClampNeg = true) (oE (fun x : GSt × LSt => SetR nL W nB v.toNatClampNeg (leavG (aG A) v.toNatClampNeg k.toNatClampNeg) (aL A) x.1 x.2) (fun x => oR 0 (if lD x.2 = 0 then 1 else -3 : Int32).toInt64 (xG A x.1 x.2))) (oR 0 (-8) A)) (oR 2 0 A)) (oR 1 0 A)
theorem rLeave_D (nL W nB : Nat) (v k : Int32) (A : AS) : Det (rLeave nL W nB v k A) := Det_B (fun _ => Det_B (fun _ => Det_B (fun _ => Det_E Set_fun (fun _ _ => Det_R _ _ _)) (fun _ => Det_R _ _ _)) (fun _ => Det_R _ _ _)) (fun _ => Det_R _ _ _)
theorem rLeave_P {Y : Ly} {q : Nat → Nat → Nat} {nL W nB : Nat} {n : Nat} {v k : Int32} {A : AS} (hC : SC Y q nL W nB) (h : AI nL W nB n A) (hn : n < 2 ^ 39) : Pre nL W nB n (rLeave nL W nB v k A) := by
  have up := AI_up h (Nat.le_add_right n KK)
  refine Pre_B (fun g => Pre_B (fun _ => Pre_B (fun hm => Pre_E (fun x hx => Pre_R ?_)) (fun _ => Pre_R up)) (fun _ => Pre_R up)) (fun _ => Pre_R up)
  obtain ⟨i, hi, rfl⟩ := LgO_n (by decide) g.1
  obtain ⟨j, hj, rfl⟩ := LgO_n (by decide) g.2
  rw [nI_clamp (by omega), nI_clamp (by omega)] at hx hm
  exact AI_set hC h hn (GI_leav h.2.2.2.1 hi hj hm) hi hx
theorem l_leave {Y : Ly} {q : Nat → Nat → Nat} {nL W nB : Nat} {M : Mm} {A : AS} {n : Nat} {v k : Int32} {Kn : Int32 → Mm → Prop} (hC : SC Y q nL W nB) (hR : SR q nL (mR M)) (hA : Rsl Y q) (hS : CS q nL W nB M A) (hI : AI nL W nB n A) (hn : n < 2 ^ 30) (hK : KC q nL W nB (rLeave nL W nB v k A) M Kn) : f_L_leave Y (q 0 0) v k (q 21 0) M Kn := by
  refine ⟨sk_0_0 hC, ?_⟩
  unfold f_X11_leave f_X11_leave_18
  have no : ¬ (LgO 8 v ∧ LgO 8 k) → Kn 1 M := fun g => K_no (by decide) hK (Or.inr ⟨g, rfl⟩) hS (Ec_refl _ _ _)
  refine c_eight (fun g1 => ⟨fun z => absurd z (by decide), fun _ => c_eight (fun g2 => ⟨fun z => absurd z (by decide), fun _ => ?_⟩) (fun g2 => ⟨fun _ => ⟨fun z => absurd rfl z, fun _ => Or.inl ⟨rfl, no (fun z => g2 z.2)⟩⟩, fun z => absurd rfl z⟩)⟩) (fun g1 => ⟨fun _ => ⟨fun z => absurd rfl z, fun _ => Or.inl ⟨rfl, no (fun z => g1 z.1)⟩⟩, fun z => absurd rfl z⟩)
  have hX : LgO 8 v ∧ LgO 8 k := ⟨g1, g2⟩
  have hCL := hS.2.2.2.2.2.1
  unfold f_X11_leave_19
  refine ⟨fun _ => ⟨sk_0_0 hC, c_power hC hR hCL (fun g3 => ⟨_, sr_0_0_12 hR, sk_0_26 hC, ?_⟩) (fun g3 => Or.inr ⟨rfl, K_no (by decide) hK (Or.inl ⟨hX, Or.inr ⟨g3, rfl⟩⟩) hS (Ec_refl _ _ _)⟩)⟩, fun z => absurd z (by decide)⟩
  obtain ⟨i, hi, rfl⟩ := LgO_n (by decide) g1
  obtain ⟨j, hj, rfl⟩ := LgO_n (by decide) g2
  obtain ⟨e, he1, he2⟩ := end_of hI (by omega)
  have ci : (nI i).toNatClampNeg = i := nI_clamp (by omega)
  have cj : (nI j).toNatClampNeg = j := nI_clamp (by omega)
  refine c_depart hC hR hI.2.2.2.2.1 hCL g3 (hlf_of hI g3) hS.2.2.2.2.1 hI.2.2.2.1 hn hi hj he1 he2 (fun hm => ?_) (fun hm G' L' M' hs G2 C2 F2 hb => ?_)
  · exact K_st hC hA hK (Or.inl ⟨hX, Or.inl ⟨g3, Or.inr ⟨by rw [ci, cj]; exact hm, rfl⟩⟩⟩) hS (Ec_refl _ _ _)
  · exact K_st hC hA hK (Or.inl ⟨hX, Or.inl ⟨g3, Or.inl ⟨by rw [ci, cj]; exact hm, (G', L'), by rw [ci, cj]; exact hs, rfl⟩⟩⟩) (CS_gr hC hS F2 G2 C2 hb (fun _ => g3)) (PcG_9 hC F2)
theorem n_leave {Y : Ly} {q : Nat → Nat → Nat} {nL W nB : Nat} {M : Mm} {A : AS} {n : Nat} {v k : Int32} {Kn : Int64 → Mm → Prop} (hC : SC Y q nL W nB) (hM : SM q (mR M)) (hS : MS q nL W nB M A) (hI : AI nL W nB n A) (hn : n < 2 ^ 30) (hK : KM q nL W nB (rLeave nL W nB v k A) M Kn) : f_X12_leave Y (q 20 0) v k M (fun r M' => Kn r.toInt64 M') := by
  have w5 : mI M (q 20 0) 5 = lD (aL A) := hS.2.2.2.2.1.2.2.2
  have no : ¬ (LgO 8 v ∧ LgO 8 k) → f_X12_leave_20 Y (q 20 0) v k (fun r M' => Kn r.toInt64 M') 0 M := by
    intro g
    unfold f_X12_leave_20
    exact ⟨sk_20_0 hC, m_goes hC (fun z => absurd rfl z) (fun z => absurd rfl z) (fun _ => ⟨fun z => absurd rfl z, fun _ => M_no hC (by decide) hK (Or.inr ⟨g, rfl⟩) hS⟩)⟩
  unfold f_X12_leave f_X12_leave_19
  refine m_isOne (fun g1 => ⟨fun z => absurd z (by decide), fun _ => m_isOne (fun g2 => ⟨fun z => absurd z (by decide), fun _ => ?_⟩) (fun g2 => ⟨fun _ => no (fun z => g2 z.2), fun z => absurd rfl z⟩)⟩) (fun g1 => ⟨fun _ => no (fun z => g1 z.1), fun z => absurd rfl z⟩)
  have hX : LgO 8 v ∧ LgO 8 k := ⟨g1, g2⟩
  by_cases g3 : lD (aL A) = 0
  · obtain ⟨i, hi, rfl⟩ := LgO_n (by decide) g1
    obtain ⟨j, hj, rfl⟩ := LgO_n (by decide) g2
    have ci : (nI i).toNatClampNeg = i := nI_clamp (by omega)
    have cj : (nI j).toNatClampNeg = j := nI_clamp (by omega)
    refine m_leave20 hC hM hI.2.2.2.2.1 hS.2.2.2.2.1 g3 (hlf_of hI g3) hS.2.2.2.1 hI.2.2.2.1 hn hi hj (fun hm => ?_) (fun hm G' L' M' hs G2 C2 F2 => ?_)
    · exact hK (0, -8, A) _ _ (Or.inl ⟨hX, Or.inl ⟨g3, Or.inr ⟨by rw [ci, cj]; exact hm, rfl⟩⟩⟩) (cd_MS hC hS 0) (Ec_H (cd_Ec hC 0 rfl)).1 (cd_0 _ _ _) (fun _ => rfl)
    · have F3 := PG_T F2
      exact hK (0, _, _) _ _ (Or.inl ⟨hX, Or.inl ⟨g3, Or.inl ⟨by rw [ci, cj]; exact hm, (G', L'), by rw [ci, cj]; exact hs, rfl⟩⟩⟩) (MS_gr (Y := Y) (cd_MS hC hS 0) F3 G2 C2) (Ef_trans (Ec_H (cd_Ec hC 0 rfl)).1 (PT_20 F3)) (by rw [PT_0 F3]; exact cd_0 _ _ _) (fun _ => rfl)
  · unfold f_X12_leave_20
    exact ⟨sk_20_0 hC, m_goes hC (fun _ g => absurd (by rw [← w5]; exact g) g3) (fun _ g => ⟨fun z => absurd rfl z, fun _ => M_no hC (by decide) hK (Or.inl ⟨hX, Or.inr ⟨g3, rfl⟩⟩) hS⟩) (fun z => absurd z (by decide))⟩
