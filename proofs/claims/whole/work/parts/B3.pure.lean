/-! draft, seal, fault -/
theorem CS_xD {Y : Ly} {q : Nat → Nat → Nat} {nL W nB : Nat} {M M' : Mm} {A : AS} {D : Dr} (hC : SC Y q nL W nB) (h : CS q nL W nB M A) (E : Ec q PcD M M') (hD : DrC q M' D) : CS q nL W nB M' (xD A D) := by
  have hd := sdims hC
  obtain ⟨h0, h1, h2, h3, h4, h5, h6⟩ := h
  exact ⟨by rw [(E.1 0 0 0 (by unfold PcD; omega)).1]; exact h0, TpC_ec h1 E (by unfold PcD; omega) (fun j => by unfold PcD; omega), hD, FetC_ec h3 E (fun j => by unfold PcD; omega) (fun j => by unfold PcD; omega) (fun j => by unfold PcD; omega), GC_ec h4 E (fun b j _ _ => by unfold PcD; omega), CL_ec h5 E (fun j => by unfold PcD; omega) (fun j => by unfold PcD; omega) (fun j => by unfold PcD; omega) (fun l b j hl => by unfold PcD; omega), NuC_ec h6 E (fun j _ => (E.1 0 11 j (by unfold PcD; omega)).1) (by unfold PcD; omega) (by unfold PcD; omega)⟩
theorem MS_xD {Y : Ly} {q : Nat → Nat → Nat} {nL W nB : Nat} {M M' : Mm} {A : AS} {D : Dr} (hC : SC Y q nL W nB) (h : MS q nL W nB M A) (E : Ec q PmD M M') (hD : DrM q M' D) : MS q nL W nB M' (xD A D) := by
  obtain ⟨h1, h2, h3, h4, h5, h6, h7⟩ := h
  have F := (Ec_H E).1
  exact ⟨TpM_ec h1 F (by unfold PmD; omega) (fun j => by unfold PmD; omega), hD, FetM_ec h3 F (by unfold PmD; omega) (fun j => by unfold PmD; omega), GM_ef hC h4 F (by unfold PmD; omega) (fun b j _ _ => by unfold PmD; omega), ML_ef h5 (Ec_H E) (fun a b j z => by unfold PLg at z; unfold PmD; omega) (by unfold PmD; omega) (by unfold PmD; omega) (by unfold PmD; omega), by rw [(E.1 20 0 8 (by unfold PmD; omega)).2]; exact h6, by rw [(E.1 20 0 9 (by unfold PmD; omega)).2]; exact h7⟩
theorem AI_xD {nL W nB n : Nat} {A : AS} {D : Dr} (h : AI nL W nB n A) (hD : DrI D) : AI nL W nB (n + KK) (xD A D) := by
  have := AI_up h (Nat.le_add_right n KK)
  exact ⟨this.1, hD, this.2.2⟩
def rRecord (v1 : Int32) (a : Int64) (b : Int32) (c : Int64) (d e : Int32) (A : AS) : Op := oB (RcO v1 b d e) (oB (RcR (aD A) a b c d e v1.toNatClampNeg) (oR 0 (nI (dN (aD A) + v1.toNatClampNeg)).toInt64 (xD A (recD (aD A) a b c d e v1.toNatClampNeg))) (oR 2 0 A)) (oR 1 0 A)
theorem rRecord_D (v1 : Int32) (a : Int64) (b : Int32) (c : Int64) (d e : Int32) (A : AS) : Det (rRecord v1 a b c d e A) := Det_B (fun _ => Det_B (fun _ => Det_R _ _ _) (fun _ => Det_R _ _ _)) (fun _ => Det_R _ _ _)
theorem rRecord_P {nL W nB n : Nat} {v1 : Int32} {a : Int64} {b : Int32} {c : Int64} {d e : Int32} {A : AS} (h : AI nL W nB n A) : Pre nL W nB n (rRecord v1 a b c d e A) := by
  refine Pre_B (fun g => Pre_B (fun g2 => Pre_R (AI_xD h ?_)) (fun _ => Pre_R (AI_up h (Nat.le_add_right _ _)))) (fun _ => Pre_R (AI_up h (Nat.le_add_right _ _)))
  obtain ⟨N, lt, hN1, hN, rfl, hlt, rfl, hr⟩ := Rc_n g
  rw [nI_clamp (by omega)] at g2 ⊢
  exact DrI_rec h.2.1 hr g2.1 g2.2 N (Nat.le_refl _)
theorem l_record {Y : Ly} {q : Nat → Nat → Nat} {nL W nB : Nat} {M : Mm} {A : AS} {n : Nat} {v1 : Int32} {a : Int64} {b : Int32} {c : Int64} {d e : Int32} {Kn : Int32 → Mm → Prop} (hC : SC Y q nL W nB) (hR : SR q nL (mR M)) (hA : Rsl Y q) (hS : CS q nL W nB M A) (hI : AI nL W nB n A) (hK : KC q nL W nB (rRecord v1 a b c d e A) M Kn) : f_L_record Y (q 0 0) v1 a b c d e (q 21 0) M Kn := by
  refine ⟨sk_0_0 hC, c_record hC hR hS.2.2.1 hI.2.1 (fun g => Or.inl ⟨rfl, ?_⟩) (fun g g2 => Or.inr ⟨rfl, ?_⟩) (fun g g2 M' E T => ?_)⟩
  · exact K_no (by decide) hK (Or.inr ⟨g, rfl⟩) hS (Ec_refl _ _ _)
  · exact K_no (by decide) hK (Or.inl ⟨g, Or.inr ⟨g2, rfl⟩⟩) hS (Ec_refl _ _ _)
  · exact K_st hC hA hK (Or.inl ⟨g, Or.inl ⟨g2, rfl⟩⟩) (CS_xD hC hS E T) (Ec_mono E (fun a b j z => by unfold PcD at z; unfold Pc9; omega))
theorem n_record {Y : Ly} {q : Nat → Nat → Nat} {nL W nB : Nat} {M : Mm} {A : AS} {n : Nat} {v1 : Int32} {a : Int64} {b : Int32} {c : Int64} {d e : Int32} {Kn : Int64 → Mm → Prop} (hC : SC Y q nL W nB) (hM : SM q (mR M)) (hS : MS q nL W nB M A) (hI : AI nL W nB n A) (hK : KM q nL W nB (rRecord v1 a b c d e A) M Kn) : f_X12_record Y (q 20 0) v1 a b c d e M (fun r M' => Kn r.toInt64 M') := by
  refine m_record hC hM hS.2.1 hI.2.1 (fun g => ?_) (fun g g2 M' E z T => ?_) (fun g g2 M' E z T => ?_)
  · exact M_no hC (by decide) hK (Or.inr ⟨g, rfl⟩) hS
  · exact hK (2, 0, A) _ _ (Or.inl ⟨g, Or.inr ⟨g2, rfl⟩⟩) (MS_xD hC hS E T) (Ec_H (Ec_mono E (fun a b j z => z.1))).1 z (fun z => absurd z (by dsimp only; decide))
  · exact hK (0, _, _) _ _ (Or.inl ⟨g, Or.inl ⟨g2, rfl⟩⟩) (MS_xD hC hS E T) (Ec_H (Ec_mono E (fun a b j z => z.1))).1 z (fun _ => rfl)
def rSeal (pr : Int64) (ep sq : Int32) (ft : Int64) (A : AS) : Op := oB (FtO ft) (oB ((aT A).length + 61 + (dY (aD A)).length ≤ 16384) (oR 0 (nI ((aT A).length + 61 + (dY (aD A)).length)).toInt64 (xD (xT A (aT A ++ slB pr ep sq ft (aD A))) (clD (aD A)))) (oR 2 0 A)) (oR 1 0 A)
theorem rSeal_D (pr : Int64) (ep sq : Int32) (ft : Int64) (A : AS) : Det (rSeal pr ep sq ft A) := Det_B (fun _ => Det_B (fun _ => Det_R _ _ _) (fun _ => Det_R _ _ _)) (fun _ => Det_R _ _ _)
theorem dB_By (K : Nat → Int64) (KB : Nat → Int32) (V : Nat → Int64) (VB L : Nat → Int32) : ∀ n, Bys (dB K KB V VB L n)
  | 0 => fun p hp => absurd hp (List.not_mem_nil)
  | n + 1 => Bys_app (dB_By K KB V VB L n) (rb_By _ _ _ _ _ _)
theorem slB_By (pr : Int64) (ep sq : Int32) (ft : Int64) (D : Dr) : Bys (slB pr ep sq ft D) := btF_By (Bys_app (btH_By _ _ _ _ _ _ _) (dB_By _ _ _ _ _ _))
theorem rSeal_P {nL W nB n : Nat} {pr : Int64} {ep sq : Int32} {ft : Int64} {A : AS} (h : AI nL W nB n A) : Pre nL W nB n (rSeal pr ep sq ft A) := by
  refine Pre_B (fun g => Pre_B (fun g2 => Pre_R ?_) (fun _ => Pre_R (AI_up h (Nat.le_add_right _ _)))) (fun _ => Pre_R (AI_up h (Nat.le_add_right _ _)))
  have := AI_up h (Nat.le_add_right n KK)
  exact ⟨⟨by show (aT A ++ slB pr ep sq ft (aD A)).length ≤ 16384; rw [List.length_append, slB_len]; omega, Bys_app h.1.2 (slB_By _ _ _ _ _)⟩, clD_I _, this.2.2⟩
theorem l_seal {Y : Ly} {q : Nat → Nat → Nat} {nL W nB : Nat} {M : Mm} {A : AS} {n : Nat} {pr : Int64} {ep sq : Int32} {ft : Int64} {Kn : Int32 → Mm → Prop} (hC : SC Y q nL W nB) (hR : SR q nL (mR M)) (hA : Rsl Y q) (hS : CS q nL W nB M A) (hI : AI nL W nB n A) (hK : KC q nL W nB (rSeal pr ep sq ft A) M Kn) : f_L_seal Y (q 0 0) pr ep sq ft (q 21 0) M Kn := by
  have hd := sdims hC
  refine ⟨sk_0_0 hC, c_seal hC hR hS.2.1 hI.1 hS.2.2.1 hI.2.1 (fun g => Or.inl ⟨rfl, ?_⟩) (fun g g2 => Or.inr ⟨rfl, ?_⟩) (fun g g2 M' E T T2 => ?_)⟩
  · exact K_no (by decide) hK (Or.inr ⟨g, rfl⟩) hS (Ec_refl _ _ _)
  · exact K_no (by decide) hK (Or.inl ⟨g, Or.inr ⟨g2, rfl⟩⟩) hS (Ec_refl _ _ _)
  · refine K_st hC hA hK (Or.inl ⟨g, Or.inl ⟨g2, rfl⟩⟩) ?_ (Ec_mono E (fun a b j z => by unfold PcS PcT PcD at z; unfold Pc9; omega))
    obtain ⟨h0, h1, h2, h3, h4, h5, h6⟩ := hS
    exact ⟨by rw [(E.1 0 0 0 (by unfold PcS PcT PcD; omega)).1]; exact h0, T, T2, FetC_ec h3 E (fun j => by unfold PcS PcT PcD; omega) (fun j => by unfold PcS PcT PcD; omega) (fun j => by unfold PcS PcT PcD; omega), GC_ec h4 E (fun b j _ _ => by unfold PcS PcT PcD; omega), CL_ec h5 E (fun j => by unfold PcS PcT PcD; omega) (fun j => by unfold PcS PcT PcD; omega) (fun j => by unfold PcS PcT PcD; omega) (fun l b j hl => by unfold PcS PcT PcD; omega), NuC_ec h6 E (fun j _ => (E.1 0 11 j (by unfold PcS PcT PcD; omega)).1) (by unfold PcS PcT PcD; omega) (by unfold PcS PcT PcD; omega)⟩
theorem n_seal {Y : Ly} {q : Nat → Nat → Nat} {nL W nB : Nat} {M : Mm} {A : AS} {n : Nat} {pr : Int64} {ep sq : Int32} {ft : Int64} {Kn : Int64 → Mm → Prop} (hC : SC Y q nL W nB) (hM : SM q (mR M)) (hS : MS q nL W nB M A) (hI : AI nL W nB n A) (hK : KM q nL W nB (rSeal pr ep sq ft A) M Kn) : f_X12_seal Y (q 20 0) pr ep sq ft M (fun r M' => Kn r.toInt64 M') := by
  refine m_seal hC hM hS.1 hI.1 hS.2.1 hI.2.1 (fun g => ?_) (fun g g2 => ?_) (fun g g2 M' E z T T2 => ?_)
  · exact M_no hC (by decide) hK (Or.inr ⟨g, rfl⟩) hS
  · exact M_no hC (by decide) hK (Or.inl ⟨g, Or.inr ⟨g2, rfl⟩⟩) hS
  · refine hK (0, _, _) _ _ (Or.inl ⟨g, Or.inl ⟨g2, rfl⟩⟩) ?_ (Ec_H (Ec_mono E (fun a b j z => z.1))).1 z (fun _ => rfl)
    obtain ⟨h1, h2, h3, h4, h5, h6, h7⟩ := hS
    have F := (Ec_H E).1
    exact ⟨T, T2, FetM_ec h3 F (by unfold PmS; omega) (fun j => by unfold PmS; omega), GM_ef hC h4 F (by unfold PmS; omega) (fun b j _ _ => by unfold PmS; omega), ML_ef h5 (Ec_H E) (fun a b j z => by unfold PLg at z; unfold PmS; omega) (by unfold PmS; omega) (by unfold PmS; omega) (by unfold PmS; omega), by rw [(E.1 20 0 8 (by unfold PmS; omega)).2]; exact h6, by rw [(E.1 20 0 9 (by unfold PmS; omega)).2]; exact h7⟩
/-! places that tell nothing between calls -/
def Qs : Nat → Nat → Nat → Prop := fun a b _ => a = 0 ∧ (b = 4 ∨ b = 5 ∨ b = 9 ∨ b = 12 ∨ (14 ≤ b ∧ b ≤ 25) ∨ b = 33)
theorem CS_scr {Y : Ly} {q : Nat → Nat → Nat} {nL W nB : Nat} {M M' : Mm} {A : AS} (hC : SC Y q nL W nB) (h : CS q nL W nB M A) (E : Ec q Qs M M') : CS q nL W nB M' A := by
  have hd := sdims hC
  obtain ⟨h0, h1, h2, h3, h4, h5, h6⟩ := h
  exact ⟨by rw [(E.1 0 0 0 (by unfold Qs; omega)).1]; exact h0, TpC_ec h1 E (by unfold Qs; omega) (fun j => by unfold Qs; omega), DrC_ec h2 E (fun j => by unfold Qs; omega) (fun j => by unfold Qs; omega), FetC_ec h3 E (fun j => by unfold Qs; omega) (fun j => by unfold Qs; omega) (fun j => by unfold Qs; omega), GC_ec h4 E (fun b j _ _ => by unfold Qs; omega), CL_ec h5 E (fun j => by unfold Qs; omega) (fun j => by unfold Qs; omega) (fun j => by unfold Qs; omega) (fun l b j hl => by unfold Qs; omega), NuC_ec h6 E (fun j _ => (E.1 0 11 j (by unfold Qs; omega)).1) (by unfold Qs; omega) (by unfold Qs; omega)⟩
def Qm : Nat → Nat → Nat → Prop := fun a b j => a = 20 ∧ ((b = 0 ∧ (j = 0 ∨ 41 ≤ j)) ∨ b = 32 ∨ 41 ≤ b)
theorem MS_scr {Y : Ly} {q : Nat → Nat → Nat} {nL W nB : Nat} {M M' : Mm} {A : AS} (hC : SC Y q nL W nB) (h : MS q nL W nB M A) (E : EfH q Qm M M') : MS q nL W nB M' A := by
  obtain ⟨h1, h2, h3, h4, h5, h6, h7⟩ := h
  have F := E.1
  exact ⟨TpM_ec h1 F (by unfold Qm; omega) (fun j => by unfold Qm; omega), DrM_ec h2 F (by unfold Qm; omega) (fun b j _ _ => by unfold Qm; omega), FetM_ec h3 F (by unfold Qm; omega) (fun j => by unfold Qm; omega), GM_ef hC h4 F (by unfold Qm; omega) (fun b j _ _ => by unfold Qm; omega), ML_ef h5 E (fun a b j z => by unfold PLg at z; unfold Qm; omega) (by unfold Qm; omega) (by unfold Qm; omega) (by unfold Qm; omega), by rw [(F.1 20 0 8 (by unfold Qm; omega)).2]; exact h6, by rw [(F.1 20 0 9 (by unfold Qm; omega)).2]; exact h7⟩
def rFault (v : Int32) (A : AS) : Op := oB (0 ≤ v ∧ v ≤ 1) (oE (fun k : Int32 × Int32 => Exm (aT A) k.1 k.2) (fun k => oR 0 (if v = 0 then k.1 else k.2).toInt64 A)) (oR 1 0 A)
theorem Ex_fun {tp : Bt} (x y : Int32 × Int32) (h : Exm tp x.1 x.2) (h' : Exm tp y.1 y.2) : x = y := Prod.ext (Exm_fun h h').1 (Exm_fun h h').2
theorem rFault_D (v : Int32) (A : AS) : Det (rFault v A) := Det_B (fun _ => Det_E Ex_fun (fun _ _ => Det_R _ _ _)) (fun _ => Det_R _ _ _)
theorem rFault_P {nL W nB n : Nat} {v : Int32} {A : AS} (h : AI nL W nB n A) : Pre nL W nB n (rFault v A) := Pre_B (fun _ => Pre_E (fun _ _ => Pre_R (AI_up h (Nat.le_add_right _ _)))) (fun _ => Pre_R (AI_up h (Nat.le_add_right _ _)))
theorem l_fault {Y : Ly} {q : Nat → Nat → Nat} {nL W nB : Nat} {M : Mm} {A : AS} {n : Nat} {v : Int32} {Kn : Int32 → Mm → Prop} (hC : SC Y q nL W nB) (hR : SR q nL (mR M)) (hA : Rsl Y q) (hS : CS q nL W nB M A) (hI : AI nL W nB n A) (hK : KC q nL W nB (rFault v A) M Kn) : f_L_fault Y (q 0 0) v (q 21 0) M Kn := by
  refine ⟨sk_0_0 hC, ?_⟩
  unfold f_X11_fault f_X11_fault_46
  refine s_within (lo := 0) (hi := 1) rfl rfl (fun g => ⟨fun _ => ⟨sk_0_0 hC, _, sr_0_0_4 hR, _, sr_0_0_1 hR, sk_0_4 hC, ?_⟩, fun z => absurd z (by decide)⟩) (fun g => ⟨fun z => absurd rfl z, fun _ => ⟨rfl, K_no (by decide) hK (Or.inr ⟨g, rfl⟩) hS (Ec_refl _ _ _)⟩⟩)
  rw [hS.2.1.1]
  refine c_examine hC hR hS.2.1.2 hI.1.1 (fun kd pl M' hE F k0 k1 => ?_)
  have E : Ec q Qs M M' := Ec_mono (Ec_Fr hC F) (fun a b j z => by unfold F45 at z; unfold Qs; omega)
  have hS' := CS_scr hC hS E
  have E9 : Ec q Pc9 M M' := Ec_mono E (fun a b j z => by unfold Qs at z; unfold Pc9; omega)
  have hR' : SR q nL (mR M') := by rw [E.2]; exact hR
  refine ⟨fun z => ⟨_, sr_0_0_4 hR', sk_0_4 hC, ?_⟩, fun z => ⟨_, sr_0_0_4 hR', sk_0_4 hC, ?_⟩⟩
  · rw [k1]
    refine K_st hC hA hK (Or.inl ⟨g, (kd, pl), hE, ?_⟩) hS' E9
    show (_, _, _) = (_, _, _)
    rw [if_neg z]
  · rw [k0]
    refine K_st hC hA hK (Or.inl ⟨g, (kd, pl), hE, ?_⟩) hS' E9
    show (_, _, _) = (_, _, _)
    rw [if_pos z]
theorem n_fault {Y : Ly} {q : Nat → Nat → Nat} {nL W nB : Nat} {M : Mm} {A : AS} {n : Nat} {v : Int32} {Kn : Int64 → Mm → Prop} (hC : SC Y q nL W nB) (hM : SM q (mR M)) (hS : MS q nL W nB M A) (hI : AI nL W nB n A) (hK : KM q nL W nB (rFault v A) M Kn) : f_X12_fault Y (q 20 0) v M (fun r M' => Kn r.toInt64 M') := by
  have yes : (0 ≤ v ∧ v ≤ 1) → f_X12_fault_15 Y (q 20 0) v M (fun r M' => Kn r.toInt64 M') 0 := by
    intro g
    unfold f_X12_fault_15 f_X12_fault_46
    refine ⟨sk_20_0 hC, fun M3 e3 => ?_⟩
    have e3 : M3 = cd q M 0 := e3
    subst e3
    refine ⟨fun _ => ?_, fun z => absurd (by rw [cd_0]; decide) z⟩
    have hS0 := cd_MS hC hS 0
    refine m_readTape hC hM hS0.1.2 hI.1.2 hI.1.1 hS0.1.1 (fun kd pl M' hE F k0 k1 => ?_)
    have E : EfH q Qm (cd q M 0) M' := EfH_mono (EfH_Scr hC F) (fun a b j z => by unfold P4 at z; unfold Qm; omega)
    have hS' := MS_scr hC hS0 E
    have E2 : Ef q Pm20 M M' := Ef_trans (Ec_H (cd_Ec hC 0 rfl)).1 (Ef_mono E.1 (fun a b j z => z.1))
    have z0 : mI M' (q 20 0) 0 = 0 := by rw [((EfH_Scr hC F).1.1 20 0 0 (by unfold P4; omega)).1]; exact cd_0 _ _ _
    refine ⟨fun z => hK (0, _, A) _ _ (Or.inl ⟨g, (kd, pl), hE, rfl⟩) hS' E2 z0 (fun _ => ?_), fun z => hK (0, _, A) _ _ (Or.inl ⟨g, (kd, pl), hE, rfl⟩) hS' E2 z0 (fun _ => ?_)⟩
    · dsimp only; rw [if_neg z, k1]
    · dsimp only; rw [if_pos z, k0]
  unfold f_X12_fault f_X12_fault_10
  refine ⟨fun z => yes (by rw [z]; decide), fun z => ⟨fun z1 => ?_, fun z1 => yes (by rw [z1]; decide)⟩⟩
  have no : ¬ (0 ≤ v ∧ v ≤ 1) := by
    rintro ⟨h1, h2⟩
    obtain ⟨k, hk, rfl⟩ := nI_of (Int32.not_lt.mpr h1)
    have := (nI_cmp (b := 1) hk (by omega)).mp h2
    rcases (show k = 0 ∨ k = 1 by omega) with rfl | rfl
    · exact z rfl
    · exact z1 rfl
  unfold f_X12_fault_15
  refine ⟨sk_20_0 hC, fun M3 e3 => ?_⟩
  have e3 : M3 = cd q M 1 := e3
  subst e3
  exact ⟨fun z => by rw [cd_0] at z; exact absurd z (by decide), fun _ => M_no hC (by decide) hK (Or.inr ⟨no, rfl⟩) hS⟩
