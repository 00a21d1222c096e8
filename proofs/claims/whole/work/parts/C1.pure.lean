/-! retain, audit -/
def rRetain (nL : Nat) (v b : Int32) (A : AS) : Op := oB (LgO nL v ∧ 0 ≤ b) (oB (lD (aL A) = 0) (oE (fun x : (Nat → Int64) × LSt × Int32 => RetR v.toNatClampNeg b.toNatClampNeg (aS A) (aL A) x.1 x.2.1 x.2.2) (fun x => oR 0 x.2.2.toInt64 (A.1, A.2.1, A.2.2.1, A.2.2.2.1, x.1, x.2.1, A.2.2.2.2.2.2))) (oR 2 0 A)) (oR 1 0 A)
theorem rRetain_D (nL : Nat) (v b : Int32) (A : AS) : Det (rRetain nL v b A) := Det_B (fun _ => Det_B (fun _ => Det_E (fun x y h h' => by
  obtain ⟨e1, e2, e3⟩ := RetR_fun h h'
  exact Prod.ext e1 (Prod.ext e2 e3)) (fun _ _ => Det_R _ _ _)) (fun _ => Det_R _ _ _)) (fun _ => Det_R _ _ _)
theorem rRetain_P {Y : Ly} {q : Nat → Nat → Nat} {nL W nB : Nat} {n : Nat} {v b : Int32} {A : AS} (hC : SC Y q nL W nB) (h : AI nL W nB n A) : Pre nL W nB n (rRetain nL v b A) := by
  have hd := sdims hC
  have up := AI_up h (Nat.le_add_right n KK)
  refine Pre_B (fun g => Pre_B (fun _ => Pre_E (fun x hx => Pre_R ?_)) (fun _ => Pre_R up)) (fun _ => Pre_R up)
  obtain ⟨l, hl, rfl⟩ := LgO_n (by omega) g.1
  rw [nI_clamp (by omega)] at hx
  exact ⟨up.1, up.2.1, up.2.2.1, up.2.2.2.1, RetR_IL up.2.2.2.2 (by omega) hx⟩
theorem CS_fr1 {Y : Ly} {q : Nat → Nat → Nat} {nL W nB : Nat} {M M' : Mm} {A : AS} {l : Nat} {st : Nat → Int64} {L : LSt} (hC : SC Y q nL W nB) (h : CS q nL W nB M A) (hl : l ≤ nL) (F : Fr q (Fr1 l) M M') (hL : CL q nL W nB M' st L) (hb : ∀ j, j < 1024 → mI M' (q 0 11) j = mI M (q 0 11) j) (hD : lD L = 0 → lD (aL A) = 0) : CS q nL W nB M' (A.1, A.2.1, A.2.2.1, A.2.2.2.1, st, L, A.2.2.2.2.2.2) := by
  have hd := sdims hC
  obtain ⟨P, hP⟩ : ∃ P : Nat → Nat → Nat → Prop, P = fun a b _ => Fr1 l a b := ⟨_, rfl⟩
  have E : Ec q P M M' := by rw [hP]; exact Ec_Fr hC F
  have no : ∀ b j, b ≠ 10 → b ≠ 11 → b ≠ 16 → ¬ P 0 b j := fun b j h1 h2 h3 z => by rw [hP] at z; have z : Fr1 l 0 b := z; unfold Fr1 at z; omega
  obtain ⟨h0, h1, h2, h3, h4, h5, h6⟩ := h
  exact ⟨by rw [(E.1 0 0 0 (no 0 0 (by decide) (by decide) (by decide))).1]; exact h0, TpC_ec h1 E (no 0 2 (by decide) (by decide) (by decide)) (fun j => no 1 j (by decide) (by decide) (by decide)), DrC_ec h2 E (fun j => no 2 j (by decide) (by decide) (by decide)) (fun j => no 3 j (by decide) (by decide) (by decide)), FetC_ec h3 E (fun j => no 6 j (by decide) (by decide) (by decide)) (fun j => no 7 j (by decide) (by decide) (by decide)) (fun j => no 8 j (by decide) (by decide) (by decide)), GC_ec h4 E (fun b j _ _ => no b j (by omega) (by omega) (by omega)), hL, NuC_L (NuC_ec h6 E hb (no 0 8 (by decide) (by decide) (by decide)) (no 0 9 (by decide) (by decide) (by decide))) hD⟩
theorem hlf_of {nL W nB n : Nat} {A : AS} (hI : AI nL W nB n A) (g : lD (aL A) = 0) : LfOK (lL (aL A)) := by
  rcases hI.2.2.2.2.2.2.2.2 with ⟨_, h⟩ | h
  · exact h
  · rw [g] at h; exact absurd h (by decide)
theorem l_retain {Y : Ly} {q : Nat → Nat → Nat} {nL W nB : Nat} {M : Mm} {A : AS} {n : Nat} {v b : Int32} {Kn : Int32 → Mm → Prop} (hC : SC Y q nL W nB) (hR : SR q nL (mR M)) (hA : Rsl Y q) (hS : CS q nL W nB M A) (hI : AI nL W nB n A) (hK : KC q nL W nB (rRetain nL v b A) M Kn) : f_L_retain Y (q 0 0) v b (q 21 0) M Kn := by
  have hd := sdims hC
  refine ⟨sk_0_0 hC, ?_⟩
  unfold f_X11_retain f_X11_retain_16
  have no : ¬ (LgO nL v ∧ 0 ≤ b) → Kn 1 M := fun g => K_no (by decide) hK (Or.inr ⟨g, rfl⟩) hS (Ec_refl _ _ _)
  refine ⟨sk_0_0 hC, c_isFor hC hS.1 (fun g1 => ⟨fun z => absurd z (by decide), fun _ => ⟨fun g => ⟨fun z => absurd rfl z, fun _ => Or.inl ⟨rfl, no (fun z => Int32.not_lt.mpr z.2 g)⟩⟩, fun g2 => ?_⟩⟩) (fun g1 => ⟨fun _ => ⟨fun z => absurd rfl z, fun _ => Or.inl ⟨rfl, no (fun z => g1 z.1)⟩⟩, fun z => absurd rfl z⟩)⟩
  have hX : LgO nL v ∧ 0 ≤ b := ⟨g1, Int32.not_lt.mp g2⟩
  have hCL := hS.2.2.2.2.2.1
  unfold f_X11_retain_17
  refine ⟨fun _ => ?_, fun z => absurd z (by decide)⟩
  refine c_power hC hR hCL (fun g4 => ?_) (fun g4 => Or.inr ⟨rfl, K_no (by decide) hK (Or.inl ⟨hX, Or.inr ⟨g4, rfl⟩⟩) hS (Ec_refl _ _ _)⟩)
  obtain ⟨l, hl, rfl⟩ := LgO_n (by omega) g1
  have cl : (nI l).toNatClampNeg = l := nI_clamp (by omega)
  obtain ⟨k, hk, rfl⟩ := nI_of g2
  have ck : (nI k).toNatClampNeg = k := nI_clamp hk
  refine ⟨_, sr_0_0_10 hR, _, sr_0_0_10 hR, sk_0_13 hC, _, sr_0_13_1 hR, sk_0_14 hC, by rw [sn_0_14 hC]; exact vp_in_nI (by omega) (by omega), _, by rw [cl]; exact sr_0_14 hR l (by omega), sk_0_13 hC, ?_⟩
  refine c_retain hC hR (by omega) hI.2.2.2.2.1 hCL g4 (hlf_of hI g4) hk (fun st' L' r M' hr C' F' hb => ?_)
  have ha : ∀ a b, Fr1 l a b → a ≤ 9 := fun a b z => by unfold Fr1 at z; omega
  exact K_st hC hA hK (Or.inl ⟨hX, Or.inl ⟨g4, (st', L', r), by rw [cl, ck]; exact hr, rfl⟩⟩) (CS_fr1 hC hS (by omega) F' C' hb (fun _ => g4)) (Ec_mono (Ec_Fr hC F') (fun a b j z => ha a b z))
theorem MS_rt {Y : Ly} {q : Nat → Nat → Nat} {nL W nB : Nat} {M M' : Mm} {A : AS} {st : Nat → Int64} {L : LSt} (hC : SC Y q nL W nB) (h : MS q nL W nB M A) (E : EfH q PRt M M') (hL : ML q nL W nB M' st L) : MS q nL W nB M' (A.1, A.2.1, A.2.2.1, A.2.2.2.1, st, L, A.2.2.2.2.2.2) := by
  obtain ⟨h1, h2, h3, h4, h5, h6, h7⟩ := h
  have F := E.1
  exact ⟨TpM_ec h1 F (by unfold PRt; omega) (fun j => by unfold PRt; omega), DrM_ec h2 F (by unfold PRt; omega) (fun b j _ _ => by unfold PRt; omega), FetM_ec h3 F (by unfold PRt; omega) (fun j => by unfold PRt; omega), GM_ef hC h4 F (by unfold PRt; omega) (fun b j _ _ => by unfold PRt; omega), hL, by rw [(F.1 20 0 8 (by unfold PRt; omega)).2]; exact h6, by rw [(F.1 20 0 9 (by unfold PRt; omega)).2]; exact h7⟩
theorem n_retain {Y : Ly} {q : Nat → Nat → Nat} {nL W nB : Nat} {M : Mm} {A : AS} {n : Nat} {v b : Int32} {Kn : Int64 → Mm → Prop} (hC : SC Y q nL W nB) (hM : SM q (mR M)) (hS : MS q nL W nB M A) (hI : AI nL W nB n A) (hn : n < 2 ^ 40) (hK : KM q nL W nB (rRetain nL v b A) M Kn) : f_X12_retain Y (q 20 0) v b M (fun r M' => Kn r.toInt64 M') := by
  have hd := sdims hC
  have no : ¬ (LgO nL v ∧ 0 ≤ b) → f_X12_retain_22 Y (q 20 0) v b M (fun r M' => Kn r.toInt64 M') 0 := by
    intro g
    unfold f_X12_retain_22
    exact ⟨sk_20_0 hC, m_goes hC (fun z => absurd rfl z) (fun z => absurd rfl z) (fun _ => ⟨fun z => absurd rfl z, fun _ => M_no hC (by decide) hK (Or.inr ⟨g, rfl⟩) hS⟩)⟩
  have w1 : mI M (q 20 0) 1 = nI nL := by obtain ⟨B, hp, ht, hLM⟩ := hS.2.2.2.2.1.1; exact hLM.1.1
  have w5 : mI M (q 20 0) 5 = lD (aL A) := hS.2.2.2.2.1.2.2.2
  unfold f_X12_retain f_X12_retain_21
  rw [w1]
  refine ⟨fun g => no (fun z => Int32.not_lt.mpr z.1.1 g), fun g0 => ⟨sk_20_0 hC, fun g => no (fun z => Int32.not_lt.mpr g z.1.2), fun g1 => ⟨fun g => no (fun z => Int32.not_lt.mpr z.2 g), fun g2 => ?_⟩⟩⟩
  have gl : LgO nL v := ⟨Int32.not_lt.mp g0, Int32.not_le.mp g1⟩
  have hX : LgO nL v ∧ 0 ≤ b := ⟨gl, Int32.not_lt.mp g2⟩
  unfold f_X12_retain_22
  refine ⟨sk_20_0 hC, m_goes hC (fun _ g => ⟨fun _ => ?_, fun z => absurd z (by decide)⟩) (fun _ g => ⟨fun z => absurd rfl z, fun _ => M_no hC (by decide) hK (Or.inl ⟨hX, Or.inr ⟨by rw [← w5]; exact g, rfl⟩⟩) hS⟩) (fun z => absurd z (by decide))⟩
  rw [w5] at g
  have S2 := cd_MS hC hS 0
  have E2 : Ef q Pm20 M (cd q M 0) := (Ec_H (cd_Ec hC 0 rfl)).1
  obtain ⟨l, hl, rfl⟩ := LgO_n (by omega) gl
  have cl : (nI l).toNatClampNeg = l := nI_clamp (by omega)
  obtain ⟨k, hk, rfl⟩ := nI_of g2
  have ck : (nI k).toNatClampNeg = k := nI_clamp hk
  refine m_retainL (M := cd q M 0) hC hM (by omega) hI.2.2.2.2 hn S2.2.2.2.2.1 g hk (fun st' L' r M' hr C' E' => ?_)
  have z' : mI M' (q 20 0) 0 = 0 := by rw [(E'.1.1 20 0 0 (by unfold PRt; omega)).1]; exact cd_0 _ _ _
  exact hK (0, r.toInt64, _) _ _ (Or.inl ⟨hX, Or.inl ⟨g, (st', L', r), by rw [cl, ck]; exact hr, rfl⟩⟩) (MS_rt hC S2 E' C') (Ef_trans E2 (Ef_mono E'.1 (fun a b j z => z.1))) z' (fun _ => rfl)
def rAudit (A : AS) : Op := oB (lD (aL A) = 0) (oR 0 0 A) (oR 1 0 A)
theorem rAudit_D (A : AS) : Det (rAudit A) := Det_B (fun _ => Det_R _ _ _) (fun _ => Det_R _ _ _)
theorem rAudit_P {nL W nB n : Nat} {A : AS} (h : AI nL W nB n A) : Pre nL W nB n (rAudit A) := by
  have up := AI_up h (Nat.le_add_right n KK)
  exact Pre_B (fun _ => Pre_R up) (fun _ => Pre_R up)
theorem l_audit {Y : Ly} {q : Nat → Nat → Nat} {nL W nB : Nat} {M : Mm} {A : AS} {n : Nat} {Kn : Int32 → Mm → Prop} (hC : SC Y q nL W nB) (hR : SR q nL (mR M)) (hA : Rsl Y q) (hS : CS q nL W nB M A) (hI : AI nL W nB n A) (hn : n < 2 ^ 50) (hK : KC q nL W nB (rAudit A) M Kn) : f_L_audit Y (q 0 0) (q 21 0) M Kn := by
  refine ⟨sk_0_0 hC, ?_⟩
  unfold f_X11_audit
  have hCL := hS.2.2.2.2.2.1
  refine ⟨sk_0_0 hC, c_power hC hR hCL (fun g => ⟨_, sr_0_0_10 hR, sk_0_13 hC, ?_⟩) (fun g => ⟨rfl, K_no (by decide) hK (Or.inr ⟨g, rfl⟩) hS (Ec_refl _ _ _)⟩)⟩
  refine c_audit hC hR hI.2.2.2.2 hn (hCL.2.2.2.2.2 g) hCL.2.1 (fun M' F => ?_)
  have E : Ec q Qs M M' := Ec_mono (Ec_Fr hC F) (fun a b j z => by unfold Qs; omega)
  exact K_st hC hA hK (Or.inl ⟨g, rfl⟩) (CS_scr hC hS E) (Ec_mono E (fun a b j z => by unfold Qs at z; unfold Pc9; omega))
theorem n_audit {Y : Ly} {q : Nat → Nat → Nat} {nL W nB : Nat} {M : Mm} {A : AS} {Kn : Int64 → Mm → Prop} (hC : SC Y q nL W nB) (hS : MS q nL W nB M A) (hK : KM q nL W nB (rAudit A) M Kn) : f_X12_audit Y (q 20 0) M (fun r M' => Kn r.toInt64 M') := by
  have w5 : mI M (q 20 0) 5 = lD (aL A) := hS.2.2.2.2.1.2.2.2
  unfold f_X12_audit f_X12_audit_13
  refine ⟨sk_20_0 hC, ?_⟩
  rw [w5]
  refine ⟨fun g M3 e3 => ?_, fun g M3 e3 => ?_⟩
  · have e3 : M3 = cd q M 0 := e3
    subst e3
    exact hK (0, 0, A) _ _ (Or.inl ⟨g, rfl⟩) (cd_MS hC hS 0) (Ec_H (cd_Ec hC 0 rfl)).1 (cd_0 _ _ _) (fun _ => rfl)
  · have e3 : M3 = cd q M 1 := e3
    subst e3
    exact M_no hC (by decide) hK (Or.inr ⟨g, rfl⟩) hS
