/-! produce by the model -/
theorem ApR_r {nL W nB l : Nat} {bt : Bt} {L L' : LSt} {r : Int32} (h : ApR nL W nB l bt L L' r) : r = 1 ∨ r = -2 ∨ r = -3 := by
  rcases h with ⟨_, _, h⟩ | ⟨T, k, x, l', ad, dn, full, _, _, _, h⟩
  · exact Or.inr (Or.inl h)
  · by_cases z : dn = 0
    · rw [if_pos z] at h; exact Or.inl h
    · rw [if_neg z] at h; exact Or.inr (Or.inr h)
theorem MS_app {Y : Ly} {q : Nat → Nat → Nat} {nL W nB : Nat} {M M' : Mm} {A : AS} {L : LSt} (hC : SC Y q nL W nB) (h : MS q nL W nB M A) (F : Ef q PA M M') (hL : ML q nL W nB M' (aS A) L) : MS q nL W nB M' (xL A L) := by
  obtain ⟨h1, h2, h3, h4, h5, h6, h7⟩ := h
  exact ⟨TpM_ec h1 F (by unfold PA; omega) (fun j => by unfold PA; omega), DrM_ec h2 F (by unfold PA; omega) (fun b j _ _ => by unfold PA; omega), FetM_ec h3 F (by unfold PA; omega) (fun j => by unfold PA; omega), GM_ef hC h4 F (by unfold PA; omega) (fun b j _ _ => by unfold PA; omega), hL, by rw [(F.1 20 0 8 (by unfold PA; omega)).2]; exact h6, by rw [(F.1 20 0 9 (by unfold PA; omega)).2]; exact h7⟩
theorem n_produce {Y : Ly} {q : Nat → Nat → Nat} {nL W nB : Nat} {M : Mm} {A : AS} {n : Nat} {v : Int32} {Kn : Int64 → Mm → Prop} (hC : SC Y q nL W nB) (hM : SM q (mR M)) (hS : MS q nL W nB M A) (hI : AI nL W nB n A) (hK : KM q nL W nB (rProd nL W nB v A) M Kn) : f_X12_produce Y (q 20 0) v M Kn := by
  have hd := sdims hC
  have no : ¬ LgO nL v → f_X12_produce_18 Y (q 20 0) v M Kn 0 := by
    intro g
    unfold f_X12_produce_18
    exact ⟨sk_20_0 hC, m_goes hC (fun z => absurd rfl z) (fun z => absurd rfl z) (fun _ => ⟨fun z => absurd rfl z, fun _ => M_no hC (by decide) hK (Or.inr ⟨g, rfl⟩) hS⟩)⟩
  have w1 : mI M (q 20 0) 1 = nI nL := by obtain ⟨B, hp, ht, hLM⟩ := hS.2.2.2.2.1.1; exact hLM.1.1
  have w5 : mI M (q 20 0) 5 = lD (aL A) := hS.2.2.2.2.1.2.2.2
  unfold f_X12_produce f_X12_produce_17
  rw [w1]
  refine ⟨fun g => no (fun z => Int32.not_lt.mpr z.1 g), fun g0 => ⟨sk_20_0 hC, fun g => no (fun z => Int32.not_lt.mpr g z.2), fun g1 => ?_⟩⟩
  have g : LgO nL v := ⟨Int32.not_lt.mp g0, Int32.not_le.mp g1⟩
  unfold f_X12_produce_18 f_X12_produce_126
  refine ⟨sk_20_0 hC, m_goes hC (fun _ g2 => ⟨fun _ => ?_, fun z => absurd z (by decide)⟩) (fun _ g2 => ⟨fun z => absurd rfl z, fun _ => M_no hC (by decide) hK (Or.inl ⟨g, Or.inr ⟨by rw [← w5]; exact g2, rfl⟩⟩) hS⟩) (fun z => absurd z (by decide))⟩
  rw [w5] at g2
  have S2 := cd_MS hC hS 0
  have E2 : Ef q Pm20 M (cd q M 0) := (Ec_H (cd_Ec hC 0 rfl)).1
  refine m_readTape hC hM S2.1.2 hI.1.2 hI.1.1 S2.1.1 (fun kd pl M6 hE F6 k44 k45 => ?_)
  have E6 : EfH q Qm (cd q M 0) M6 := EfH_mono (EfH_Scr hC F6) (fun a b j z => by unfold P4 at z; unfold Qm; omega)
  have S6 := MS_scr hC S2 E6
  have z6 : mI M6 (q 20 0) 0 = 0 := by rw [((EfH_Scr hC F6).1.1 20 0 0 (by unfold P4; omega)).1]; exact cd_0 _ _ _
  have hM6 : SM q (mR M6) := Ef_SM E6.1 hM
  have F06 : Ef q Pm20 M M6 := Ef_trans E2 (Ef_mono E6.1 (fun a b j z => z.1))
  intro x7 e7 M8 e8
  rw [S6.1.1] at e7
  subst e7
  have E8 : Ec q PmT M6 M8 := Ec_sI hC e8 ⟨rfl, Or.inl ⟨rfl, Or.inr rfl⟩⟩
  have S8 : MS q nL W nB M8 (xT A []) := MS_xT hC S6 E8 ⟨by rw [e8, mI_sI_self]; exact m1_at _ _ _, trivial⟩
  have F08 : Ef q Pm20 M M8 := Ef_trans F06 (Ec_H (Ec_mono E8 (fun a b j z => z.1))).1
  have z8 : mI M8 (q 20 0) 0 = 0 := by rw [e8, mI_sI_self, m1_nat _ _ (by decide)]; exact z6
  have k8 : mI M8 (q 20 0) 44 = kd := by rw [e8, mI_sI_self, m1_nat _ _ (by decide)]; exact k44
  have w8 : mI M8 (q 20 0) 2 = nI W := by obtain ⟨B, hp, ht, hLM⟩ := S8.2.2.2.2.1.1; exact hLM.1.2.1
  rw [k8, Exm_kd hE]
  refine ⟨fun z => ?_, fun z => hK (0, -4, xT A []) _ _ (Or.inl ⟨g, Or.inl ⟨g2, (kd, pl), hE, Or.inr ⟨z, rfl⟩⟩⟩) S8 F08 z8 (fun _ => rfl)⟩
  subst z
  have h61 := Exm_61 hE
  obtain ⟨l, hl, rfl⟩ := LgO_n (by omega) g
  have cl : (nI l).toNatClampNeg = l := nI_clamp (by omega)
  have t1 := hI.1.1
  rw [w8, show 1024 * nI W = nI (1024 * W) from pk_mul 1024 W]
  refine pk_le (aT A).length (1024 * W) (fun w => ?_) (fun w => hK (0, -5, xT A []) _ _ (Or.inl ⟨g, Or.inl ⟨g2, (0, pl), hE, Or.inl ⟨rfl, Or.inr ⟨by omega, rfl⟩⟩⟩⟩) S8 F08 z8 (fun _ => rfl))
  have w : (aT A).length ≤ W * 1024 := by omega
  intro M11 e11
  have S11 : MS q nL W nB M11 A := by
    have E11 : Ec q PmT M8 M11 := Ec_sI hC e11 ⟨rfl, Or.inl ⟨rfl, Or.inr rfl⟩⟩
    have := MS_xT (t := aT A) hC S8 E11 ⟨by rw [e11, mI_sI_self]; exact m1_at _ _ _, by rw [e11, I_ne hC _ _ (by decide), e8, I_ne hC _ _ (by decide)]; exact S6.1.2⟩
    exact this
  have hM11 : SM q (mR M11) := by rw [e11]; show SM q (mR M8); rw [e8]; exact hM6
  obtain ⟨c, hb⟩ := Exm_ok hI.1 hE
  have hG := hI.2.2.2.2.1
  have hlf : LfOK (lL (aL A)) := by
    rcases hI.2.2.2.2.2.2.2.2 with ⟨_, h⟩ | h
    · exact h
    · rw [g2] at h; exact absurd h (by decide)
  have hpr : prB (aT A) = -1 ∨ 0 ≤ prB (aT A) := by
    rcases hb.2.2.2.2.2.1 with h | h
    · exact Or.inl h
    · exact Or.inr h.1
  obtain ⟨B, hp, ht, hLM⟩ := S11.2.2.2.2.1.1
  refine m_judged hC hM11 hG hI.2.2.2.2.2.1 hLM (by omega) S11.1.2 h61 hpr (fun j hj => ?_)
  have hj' : Jd (aT A) (knO (aT A) (lS (aL A) (nI l).toNatClampNeg)) j := by rw [cl]; exact hj
  intro M14 e14
  have E14 : Ec q PmT M11 M14 := Ec_sI hC e14 ⟨rfl, Or.inl ⟨rfl, Or.inr rfl⟩⟩
  have S14 : MS q nL W nB M14 (xT A []) := MS_xT hC S11 E14 ⟨by rw [e14, mI_sI_self]; exact m1_at _ _ _, trivial⟩
  have F14 : Ef q Pm20 M M14 := Ef_trans F08 (Ef_trans (Ec_H (Ec_sI (P := Pm20) hC e11 rfl)).1 (Ec_H (Ec_mono E14 (fun a b j z => z.1))).1)
  have z14 : mI M14 (q 20 0) 0 = 0 := by rw [e14, mI_sI_self, m1_nat _ _ (by decide), e11, mI_sI_self, m1_nat _ _ (by decide)]; exact z8
  have hM14 : SM q (mR M14) := by rw [e14]; exact hM11
  refine ⟨fun z => ?_, fun z => hK (0, j, xT A []) _ _ (Or.inl ⟨g, Or.inl ⟨g2, (0, pl), hE, Or.inl ⟨rfl, Or.inl ⟨w, j, hj', Or.inr ⟨z, rfl⟩⟩⟩⟩⟩) S14 F14 z14 (fun _ => rfl)⟩
  refine ⟨_, sm_27 hM14, sk_20_28 hC, by rw [sn_20_28 hC]; exact vp_in_nI (by omega) (by omega), fun x19 e19 => ⟨_, sm_10 hM14, ?_⟩⟩
  obtain ⟨B2, hp2, ht2, hLM2⟩ := S14.2.2.2.2.1.1
  have hen : mJ M14 (q 20 28) l = lE (aL A) l := (hLM2.2.2.2.2.2.2.2.1 l (by omega)).2
  rw [cl, hen] at e19
  subst e19
  refine m_app hC hM14 (by omega) (Or.inl rfl) hG S14.2.2.2.2.1 g2 hlf (by rw [e14, I_ne hC _ _ (by decide)]; exact S11.1.2) hI.1.2 h61 w (by rw [sn_20_11 hC]; exact hI.1.1) (fun L' r M' hA' C' F' => ?_)
  have hX : rProd nL W nB (nI l) A (0, apV (aL A) l r, xL (xT A []) L') := Or.inl ⟨g, Or.inl ⟨g2, (0, pl), hE, Or.inl ⟨rfl, Or.inl ⟨w, j, hj', Or.inl ⟨z, (L', r), by rw [cl]; exact hA', by rw [cl]; rfl⟩⟩⟩⟩⟩
  have S' := MS_app hC S14 F' C'
  have z' : mI M' (q 20 0) 0 = 0 := by rw [(F'.1 20 0 0 (by unfold PA; omega)).1]; exact z14
  have F9 : Ef q Pm20 M M' := Ef_trans F14 (Ef_mono F' (fun a b j z => z.1))
  refine ⟨fun c => hK _ _ _ hX S' F9 z' (fun _ => ?_), fun c => hK _ _ _ hX S' F9 z' (fun _ => ?_)⟩
  · show lE (aL A) l = apV (aL A) l r
    unfold apV
    rcases ApR_r hA' with h | h | h <;> rw [h] at c ⊢
    · rfl
    · exact absurd c (by decide)
    · exact absurd c (by decide)
  · show r.toInt64 = apV (aL A) l r
    unfold apV
    rcases ApR_r hA' with h | h | h <;> rw [h] at c ⊢
    · exact absurd (by decide) c
    · rfl
    · rfl
