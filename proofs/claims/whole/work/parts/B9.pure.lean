/-! fetch -/
def xF (A : AS) (F : List Bt) : AS := (A.1, A.2.1, F, A.2.2.2)
theorem tkF_OK {most : Nat} (hm : most ≤ 32768) : ∀ {bs fs : List Bt}, FetOK fs → (∀ b, b ∈ bs → BatOK b) → FetOK (tkF most fs bs)
  | [], fs, h, _ => h
  | b :: bs, fs, h, hb => by
    unfold tkF
    by_cases z : fs = [] ∨ tot fs + b.length ≤ most
    · rw [if_pos z]
      exact tkF_OK hm (FetOK_s h (hb b (List.mem_cons_self ..)) hm z).1 (fun x hx => hb x (List.mem_cons_of_mem _ hx))
    · rw [if_neg z]; exact h
theorem skF_sub {off : Int64} : ∀ {bs : List Bt} {b : Bt}, b ∈ skF off bs → b ∈ bs
  | [], _, h => h
  | x :: xs, b, h => by
    unfold skF at h
    by_cases z : off ≤ hiB x
    · rw [if_pos z] at h; exact h
    · rw [if_neg z] at h; exact List.mem_cons_of_mem _ (skF_sub h)
noncomputable def rFetch (nL : Nat) (v : Int32) (off : Int64) (most : Int32) (A : AS) : Op := oB ((0 ≤ most ∧ most ≤ 32768) ∧ LgO (nL + 1) v) (oB (lD (aL A) = 0) (oB (aS A v.toNatClampNeg ≤ off ∧ off ≤ lE (aL A) v.toNatClampNeg) (oR 0 (nI (tot (tkF most.toNatClampNeg [] (skF off (BS (lS (aL A) v.toNatClampNeg)))))).toInt64 (xF A (tkF most.toNatClampNeg [] (skF off (BS (lS (aL A) v.toNatClampNeg)))))) (oR 0 (-12) A)) (oR 2 0 A)) (oR 1 0 A)
theorem rFetch_D (nL : Nat) (v : Int32) (off : Int64) (most : Int32) (A : AS) : Det (rFetch nL v off most A) := Det_B (fun _ => Det_B (fun _ => Det_B (fun _ => Det_R _ _ _) (fun _ => Det_R _ _ _)) (fun _ => Det_R _ _ _)) (fun _ => Det_R _ _ _)
theorem FetOK_nil : FetOK [] := ⟨Nat.zero_le _, fun b hb => absurd hb (List.not_mem_nil)⟩
theorem rFetch_P {Y : Ly} {q : Nat → Nat → Nat} {nL W nB : Nat} {n : Nat} {v : Int32} {off : Int64} {most : Int32} {A : AS} (hC : SC Y q nL W nB) (h : AI nL W nB n A) : Pre nL W nB n (rFetch nL v off most A) := by
  have hd := sdims hC
  have up := AI_up h (Nat.le_add_right n KK)
  refine Pre_B (fun g => Pre_B (fun _ => Pre_B (fun _ => Pre_R ?_) (fun _ => Pre_R up)) (fun _ => Pre_R up)) (fun _ => Pre_R up)
  obtain ⟨l, hl, rfl⟩ := LgO_n (by omega) g.2
  obtain ⟨k, hk, rfl⟩ := nI_of (Int32.not_lt.mpr g.1.1)
  have hm : k ≤ 32768 := (nI_cmp (b := 32768) hk (by omega)).mp g.1.2
  rw [nI_clamp (by omega), nI_clamp (by omega)]
  exact ⟨up.1, up.2.1, tkF_OK hm FetOK_nil (fun b hb => h.2.2.2.2.2.1 l (by omega) b (skF_sub hb)), up.2.2.2⟩
def PFt : Nat → Nat → Nat → Prop := fun a b _ => a = 0 ∧ (b = 6 ∨ b = 7 ∨ b = 8 ∨ b = 17)
theorem CS_xF {Y : Ly} {q : Nat → Nat → Nat} {nL W nB : Nat} {M M' : Mm} {A : AS} {F : List Bt} (hC : SC Y q nL W nB) (h : CS q nL W nB M A) (E : Ec q PFt M M') (hF : FetC q M' F) : CS q nL W nB M' (xF A F) := by
  have hd := sdims hC
  obtain ⟨h0, h1, h2, h3, h4, h5, h6⟩ := h
  exact ⟨by rw [(E.1 0 0 0 (by unfold PFt; omega)).1]; exact h0, TpC_ec h1 E (by unfold PFt; omega) (fun j => by unfold PFt; omega), DrC_ec h2 E (fun j => by unfold PFt; omega) (fun j => by unfold PFt; omega), hF, GC_ec h4 E (fun b j _ _ => by unfold PFt; omega), CL_ec h5 E (fun j => by unfold PFt; omega) (fun j => by unfold PFt; omega) (fun j => by unfold PFt; omega) (fun l b j hl => by unfold PFt; omega), NuC_ec h6 E (fun j _ => (E.1 0 11 j (by unfold PFt; omega)).1) (by unfold PFt; omega) (by unfold PFt; omega)⟩
theorem MS_xF {Y : Ly} {q : Nat → Nat → Nat} {nL W nB : Nat} {M M' : Mm} {A : AS} {F : List Bt} (hC : SC Y q nL W nB) (h : MS q nL W nB M A) (E : EfH q Pf M M') (hF : FetM q M' F) : MS q nL W nB M' (xF A F) := by
  obtain ⟨h1, h2, h3, h4, h5, h6, h7⟩ := h
  have G := E.1
  exact ⟨TpM_ec h1 G (by unfold Pf; omega) (fun j => by unfold Pf; omega), DrM_ec h2 G (by unfold Pf; omega) (fun b j _ _ => by unfold Pf; omega), hF, GM_ef hC h4 G (by unfold Pf; omega) (fun b j _ _ => by unfold Pf; omega), ML_ef h5 E (fun a b j z => by unfold PLg at z; unfold Pf; omega) (by unfold Pf; omega) (by unfold Pf; omega) (by unfold Pf; omega), by rw [(G.1 20 0 8 (by unfold Pf; omega)).2]; exact h6, by rw [(G.1 20 0 9 (by unfold Pf; omega)).2]; exact h7⟩
theorem l_fetch {Y : Ly} {q : Nat → Nat → Nat} {nL W nB : Nat} {M : Mm} {A : AS} {n : Nat} {v : Int32} {off : Int64} {most : Int32} {Kn : Int32 → Mm → Prop} (hC : SC Y q nL W nB) (hR : SR q nL (mR M)) (hA : Rsl Y q) (hS : CS q nL W nB M A) (hI : AI nL W nB n A) (hK : KC q nL W nB (rFetch nL v off most A) M Kn) : f_L_fetch Y (q 0 0) v off most (q 21 0) M Kn := by
  have hd := sdims hC
  refine ⟨sk_0_0 hC, ?_⟩
  unfold f_X11_fetch f_X11_fetch_25
  have no : ¬ ((0 ≤ most ∧ most ≤ 32768) ∧ LgO (nL + 1) v) → Kn 1 M := fun g => K_no (by decide) hK (Or.inr ⟨g, rfl⟩) hS (Ec_refl _ _ _)
  refine s_within (lo := 0) (hi := 32768) rfl rfl (fun g1 => ⟨fun z => absurd z (by decide), fun _ => ⟨sk_0_0 hC, c_isLog hC hS.1 (fun g2 => ⟨fun z => absurd z (by decide), fun _ => ?_⟩) (fun g2 => ⟨fun _ => ⟨fun z => absurd rfl z, fun _ => Or.inl ⟨rfl, no (fun z => g2 z.2)⟩⟩, fun z => absurd rfl z⟩)⟩⟩) (fun g1 => ⟨fun _ => ⟨fun z => absurd rfl z, fun _ => Or.inl ⟨rfl, no (fun z => g1 z.1)⟩⟩, fun z => absurd rfl z⟩)
  have hX : (0 ≤ most ∧ most ≤ 32768) ∧ LgO (nL + 1) v := ⟨g1, g2⟩
  have hCL := hS.2.2.2.2.2.1
  unfold f_X11_fetch_26
  refine ⟨fun _ => ⟨sk_0_0 hC, ?_⟩, fun z => absurd z (by decide)⟩
  refine c_power hC hR hCL (fun g3 => ?_) (fun g3 => Or.inr ⟨rfl, K_no (by decide) hK (Or.inl ⟨hX, Or.inr ⟨g3, rfl⟩⟩) hS (Ec_refl _ _ _)⟩)
  have hG := hI.2.2.2.2.1
  have hOK := hI.2.2.2.2.2.1
  have hLC := hCL.2.2.2.2.2 g3
  obtain ⟨l, hl, rfl⟩ := LgO_n (by omega) g2
  have cl : (nI l).toNatClampNeg = l := nI_clamp (by omega)
  have hl : l ≤ nL := by omega
  obtain ⟨k, hk, rfl⟩ := nI_of (Int32.not_lt.mpr g1.1)
  have hm : k ≤ 32768 := (nI_cmp (b := 32768) hk (by omega)).mp g1.2
  have ck : (nI k).toNatClampNeg = k := nI_clamp (by omega)
  refine ⟨_, sr_0_0_10 hR, sk_0_13 hC, _, sr_0_13_1 hR, sk_0_14 hC, by rw [sn_0_14 hC]; exact vp_in_nI (by omega) (by omega), _, by rw [cl]; exact sr_0_14 hR l hl, sk_t_0 hC l hl, ?_⟩
  obtain ⟨a0, aTb, ast, aen⟩ := hLC.2.2 l hl
  unfold f_X8_holds
  refine ⟨sk_t_0 hC l hl, s_isWithin ?_⟩
  rw [ast, aen]
  split
  · rename_i g4
    refine ⟨Or.inr rfl, fun _ => ⟨_, sr_0_0_5 hR, sk_0_6 hC, ?_⟩, fun z => absurd z (by decide)⟩
    unfold f_X6_clear
    refine ⟨sk_0_6 hC, fun M2 e2 M3 e3 => ?_⟩
    have E3 : Ec q PFt M M3 := Ec_trans (Ec_sI hC e2 ⟨rfl, Or.inl rfl⟩) (Ec_sI hC e3 ⟨rfl, Or.inl rfl⟩)
    have F3 : FetC q M3 [] := by
      refine ⟨?_, ?_, fun i hi => absurd hi (Nat.not_lt_zero _), fun p hp => absurd hp (List.not_mem_nil)⟩
      · rw [e3, mI_sI_self, m1_nat _ _ (by decide), e2, mI_sI_self, m1_at]; rfl
      · rw [e3, mI_sI_self, m1_at]; rfl
    have S3 := CS_xF hC hS E3 F3
    have hR3 : SR q nL (mR M3) := by rw [E3.2]; exact hR
    have C3 : CL q nL W nB M3 (aS A) (aL A) := S3.2.2.2.2.2.1
    refine ⟨_, sr_0_0_10 hR3, sk_0_13 hC, c_reach hC hR3 hG (C3.2.2.2.2.2 g3) C3.2.1 hOK hl (fun i M4 hi1 hi2 hi3 F4 => ?_)⟩
    have E4 : Ec q PFt M3 M4 := Ec_mono (Ec_Fr hC F4) (fun a b j z => by unfold F1 at z; unfold PFt; omega)
    have S4 := CS_scr hC S3 (Ec_mono (Ec_Fr hC F4) (fun a b j z => by unfold F1 at z; unfold Qs; omega))
    have hR4 : SR q nL (mR M4) := by rw [E4.2]; exact hR3
    have C4 : CL q nL W nB M4 (aS A) (aL A) := S4.2.2.2.2.2.1
    have F4' : FetC q M4 [] := S4.2.2.2.1
    refine c_fetchLoop hC hR4 hG (C4.2.2.2.2.2 g3) C4.2.1 hOK hl hm hi1 F4' FetOK_nil (fun M5 F5 T5 O5 => ?_)
    rw [skF_drop hi1 hi2 hi3] at T5 ⊢
    have E5 : Ec q PFt M M5 := Ec_trans E3 (Ec_trans E4 (Ec_mono (Ec_Fr hC F5) (fun a b j z => by unfold F678 at z; unfold PFt; omega)))
    refine K_st hC hA hK (Or.inl ⟨hX, Or.inl ⟨g3, Or.inl ⟨by rw [cl]; exact g4, ?_⟩⟩⟩) (CS_xF hC hS E5 T5) (Ec_mono E5 (fun a b j z => by unfold PFt at z; unfold Pc9; omega))
    rw [cl, ck]; rfl
  · rename_i g4
    refine ⟨Or.inl rfl, fun z => absurd rfl z, fun _ => ?_⟩
    exact K_st hC hA hK (Or.inl ⟨hX, Or.inl ⟨g3, Or.inr ⟨by rw [cl]; exact g4, rfl⟩⟩⟩) hS (Ec_refl _ _ _)
theorem n_fetch {Y : Ly} {q : Nat → Nat → Nat} {nL W nB : Nat} {M : Mm} {A : AS} {n : Nat} {v : Int32} {off : Int64} {most : Int32} {Kn : Int64 → Mm → Prop} (hC : SC Y q nL W nB) (hM : SM q (mR M)) (hS : MS q nL W nB M A) (hI : AI nL W nB n A) (hK : KM q nL W nB (rFetch nL v off most A) M Kn) : f_X12_fetch Y (q 20 0) v off most M (fun r M' => Kn r.toInt64 M') := by
  have hd := sdims hC
  have no : ¬ ((0 ≤ most ∧ most ≤ 32768) ∧ LgO (nL + 1) v) → f_X12_fetch_30 Y (q 20 0) v off most M (fun r M' => Kn r.toInt64 M') 0 := by
    intro g
    unfold f_X12_fetch_30
    exact ⟨sk_20_0 hC, m_goes hC (fun z => absurd rfl z) (fun z => absurd rfl z) (fun _ => ⟨fun z => absurd rfl z, fun _ => M_no hC (by decide) hK (Or.inr ⟨g, rfl⟩) hS⟩)⟩
  have w1 : mI M (q 20 0) 1 = nI nL := by obtain ⟨B, hp, ht, hLM⟩ := hS.2.2.2.2.1.1; exact hLM.1.1
  have w5 : mI M (q 20 0) 5 = lD (aL A) := hS.2.2.2.2.1.2.2.2
  unfold f_X12_fetch f_X12_fetch_29
  refine ⟨fun g => no (fun z => Int32.not_lt.mpr z.2.1 g), fun g0 => ⟨sk_20_0 hC, fun g => no (fun z => (m_isLg w1 (by omega) g0).mpr z.2 g), fun g1 => ⟨fun g => no (fun z => Int32.not_lt.mpr z.1.1 g), fun g2 => ⟨fun g => no (fun z => Int32.not_lt.mpr z.1.2 g), fun g3 => ?_⟩⟩⟩⟩
  have gl := (m_isLg w1 (by omega) g0).mp g1
  have gw : 0 ≤ most ∧ most ≤ 32768 := ⟨Int32.not_lt.mp g2, Int32.not_lt.mp g3⟩
  unfold f_X12_fetch_30 f_X12_fetch_60
  refine ⟨sk_20_0 hC, m_goes hC (fun _ g => ⟨fun _ => ?_, fun z => absurd z (by decide)⟩) (fun _ g => ⟨fun z => absurd rfl z, fun _ => M_no hC (by decide) hK (Or.inl ⟨⟨gw, gl⟩, Or.inr ⟨by rw [← w5]; exact g, rfl⟩⟩) hS⟩) (fun z => absurd z (by decide))⟩
  rw [w5] at g
  have S2 := cd_MS hC hS 0
  have E2 : Ef q Pm20 M (cd q M 0) := (Ec_H (cd_Ec hC 0 rfl)).1
  obtain ⟨l, hl, rfl⟩ := LgO_n (by omega) gl
  have cl : (nI l).toNatClampNeg = l := nI_clamp (by omega)
  have hl : l ≤ nL := by omega
  obtain ⟨k, hk, rfl⟩ := nI_of g2
  have hm : k ≤ 32768 := (nI_cmp (b := 32768) hk (by omega)).mp gw.2
  have ck : (nI k).toNatClampNeg = k := nI_clamp (by omega)
  obtain ⟨B, hp, ht, hLM⟩ := S2.2.2.2.2.1.1
  have hst := hLM.2.2.2.2.2.2.2.1 l hl
  have out : ¬ (aS A l ≤ off ∧ off ≤ lE (aL A) l) → Kn (-12 : Int32).toInt64 (cd q M 0) := fun h => hK (0, -12, A) _ _ (Or.inl ⟨⟨gw, gl⟩, Or.inl ⟨g, Or.inr ⟨by rw [cl]; exact h, rfl⟩⟩⟩) S2 E2 (cd_0 _ _ _) (fun _ => rfl)
  refine ⟨_, sm_26 hM, sk_20_27 hC, by rw [sn_20_27 hC]; exact vp_in_nI (by omega) (by omega), ?_⟩
  rw [cl, hst.1]
  refine ⟨fun z => out (fun h => Int64.not_lt.mpr h.1 z), fun z => ⟨_, sm_27 hM, sk_20_28 hC, by rw [sn_20_28 hC]; exact vp_in_nI (by omega) (by omega), ?_⟩⟩
  rw [hst.2]
  refine ⟨fun z2 => ?_, fun z2 => out (fun h => z2 h.2)⟩
  have g4 : aS A l ≤ off ∧ off ≤ lE (aL A) l := ⟨Int64.not_lt.mp z, z2⟩
  intro M14 e14
  have E14 : EfH q Pf (cd q M 0) M14 := EfH_sI hC e14 ⟨rfl, Or.inl ⟨rfl, Or.inl rfl⟩⟩
  have S14 : MS q nL W nB M14 (xF A []) := MS_xF hC S2 E14 ⟨by rw [e14, mI_sI_self]; exact m1_at _ _ _, fun p hp => absurd hp (List.not_mem_nil)⟩
  obtain ⟨B2, hp2, ht2, hLM2⟩ := S14.2.2.2.2.1.1
  have hM14 : SM q (mR M14) := Ef_SM E14.1 hM
  refine m_fetchL hC hM14 hI.2.2.2.2.1 hLM2 hI.2.2.2.2.2.1 hl hm S14.2.2.1 (fun M' E' F' => ?_)
  have E9 := EfH_trans E14 E'
  have z' : mI M' (q 20 0) 0 = 0 := by rw [(E9.1.1 20 0 0 (by unfold Pf; omega)).1]; exact cd_0 _ _ _
  refine hK (0, _, _) _ _ (Or.inl ⟨⟨gw, gl⟩, Or.inl ⟨g, Or.inl ⟨by rw [cl]; exact g4, rfl⟩⟩⟩) ?_ (Ef_trans E2 (Ef_mono E9.1 (fun a b j z => z.1))) z' (fun _ => by rw [cl, ck])
  rw [cl, ck]
  exact MS_xF hC S2 E9 F'
