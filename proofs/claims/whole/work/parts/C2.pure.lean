/-! free, time, power -/
def rFree (nL W nB : Nat) (A : AS) : Op := oB (lD (aL A) = 0) (oR 0 (nI (frN (nL + 2) W (FFs (lS (aL A)) (nL + 1)) nB)).toInt64 A) (oR 1 0 A)
theorem rFree_D (nL W nB : Nat) (A : AS) : Det (rFree nL W nB A) := Det_B (fun _ => Det_R _ _ _) (fun _ => Det_R _ _ _)
theorem rFree_P {nL W nB n : Nat} {A : AS} (h : AI nL W nB n A) : Pre nL W nB n (rFree nL W nB A) := by
  have up := AI_up h (Nat.le_add_right n KK)
  exact Pre_B (fun _ => Pre_R up) (fun _ => Pre_R up)
theorem l_free {Y : Ly} {q : Nat → Nat → Nat} {nL W nB : Nat} {M : Mm} {A : AS} {n : Nat} {Kn : Int32 → Mm → Prop} (hC : SC Y q nL W nB) (hR : SR q nL (mR M)) (hA : Rsl Y q) (hS : CS q nL W nB M A) (hI : AI nL W nB n A) (hK : KC q nL W nB (rFree nL W nB A) M Kn) : f_L_free Y (q 0 0) (q 21 0) M Kn := by
  refine ⟨sk_0_0 hC, ?_⟩
  unfold f_X11_free
  have hCL := hS.2.2.2.2.2.1
  refine ⟨sk_0_0 hC, c_power hC hR hCL (fun g => ⟨_, sr_0_0_10 hR, sk_0_13 hC, ?_⟩) (fun g => ⟨rfl, K_no (by decide) hK (Or.inr ⟨g, rfl⟩) hS (Ec_refl _ _ _)⟩)⟩
  refine c_free hC hR hI.2.2.2.2.1 (hCL.2.2.2.2.2 g) (fun M' F => ?_)
  have E : Ec q Qs M M' := Ec_mono (Ec_Fr hC F) (fun a b j z => by unfold F1 at z; unfold Qs; omega)
  exact K_st hC hA hK (Or.inl ⟨g, rfl⟩) (CS_scr hC hS E) (Ec_mono E (fun a b j z => by unfold Qs at z; unfold Pc9; omega))
theorem n_free {Y : Ly} {q : Nat → Nat → Nat} {nL W nB : Nat} {M : Mm} {A : AS} {n : Nat} {Kn : Int64 → Mm → Prop} (hC : SC Y q nL W nB) (hM : SM q (mR M)) (hS : MS q nL W nB M A) (hI : AI nL W nB n A) (hK : KM q nL W nB (rFree nL W nB A) M Kn) : f_X12_free Y (q 20 0) M (fun r M' => Kn r.toInt64 M') := by
  have w5 : mI M (q 20 0) 5 = lD (aL A) := hS.2.2.2.2.1.2.2.2
  unfold f_X12_free f_X12_free_13
  refine ⟨sk_20_0 hC, ?_⟩
  rw [w5]
  refine ⟨fun g M3 e3 => ?_, fun g M3 e3 => ?_⟩
  · have e3 : M3 = cd q M 0 := e3
    subst e3
    refine ⟨fun _ => ?_, fun z => absurd (by rw [cd_0]; decide) z⟩
    have S2 := cd_MS hC hS 0
    obtain ⟨B, hp, ht, hLM⟩ := S2.2.2.2.2.1.1
    refine m_mark (M := cd q M 0) hC hM hLM.1.1 hLM.1.2.1 hLM.1.2.2 hI.2.2.2.2.1 hLM.2.2.2.2.2.2.1 (fun u hu => ?_)
    have E : EfH q Qm (cd q M 0) (sI (cd q M 0) (q 20 32) u) := EfH_sIr hC rfl (fun j => ⟨rfl, Or.inr (Or.inl rfl)⟩)
    refine m_freeL (M := sI (cd q M 0) (q 20 32) u) hC hM (by rw [I_ne hC _ _ (by decide)]; exact hLM.1.2.2) (by rw [mI_sI_self]; exact hu) ?_
    exact hK (0, _, A) _ _ (Or.inl ⟨g, rfl⟩) (MS_scr hC S2 E) (Ef_trans (Ec_H (cd_Ec hC 0 rfl)).1 (Ef_mono E.1 (fun a b j z => z.1))) (by rw [I_ne hC _ _ (by decide)]; exact cd_0 _ _ _) (fun _ => rfl)
  · have e3 : M3 = cd q M 1 := e3
    subst e3
    exact ⟨fun z => by rw [cd_0] at z; exact absurd z (by decide), fun _ => M_no hC (by decide) hK (Or.inr ⟨g, rfl⟩) hS⟩
/-- calls that throw nothing -/
def KD (q : Nat → Nat → Nat) (nL W nB : Nat) (X : Op) (M : Mm) (Kn : Int32 → Mm → Prop) : Prop := ∀ o M' r, X o → CS q nL W nB M' o.2.2 → Ec q Pc9 M M' → r.toInt64 = o.2.1 → Kn r M'
def KE (q : Nat → Nat → Nat) (nL W nB : Nat) (X : Op) (M : Mm) (Kn : Int32 → Mm → Prop) : Prop := ∀ o M' r, X o → MS q nL W nB M' o.2.2 → Ef q Pm20 M M' → r.toInt64 = o.2.1 → Kn r M'
theorem i64_inj {a b : Int32} (h : a.toInt64 = b.toInt64) : a = b := by
  rw [← Int32.toInt_inj, ← Int32.toInt_toInt64 a, ← Int32.toInt_toInt64 b, h]
def rTime (A : AS) : Op := oR 0 (nI (gT (aG A))).toInt64 A
def rDown (A : AS) : Op := oR 0 (lD (aL A)).toInt64 A
def rWrites (A : AS) : Op := oR 0 (lW (aL A)).toInt64 A
theorem R1_P {nL W nB n : Nat} {A : AS} {c : Int32} {v : Int64} (h : AI nL W nB n A) : Pre nL W nB n (oR c v A) := Pre_R (AI_up h (Nat.le_add_right n KK))
theorem l_time {Y : Ly} {q : Nat → Nat → Nat} {nL W nB : Nat} {M : Mm} {A : AS} {Kn : Int32 → Mm → Prop} (hC : SC Y q nL W nB) (hR : SR q nL (mR M)) (hS : CS q nL W nB M A) (hK : KD q nL W nB (rTime A) M Kn) : f_X11_time Y (q 0 0) M Kn := by
  refine ⟨sk_0_0 hC, _, sr_0_0_12 hR, sk_0_26 hC, hK (0, _, A) _ _ rfl hS (Ec_refl _ _ _) ?_⟩
  rw [hS.2.2.2.2.1.1]
theorem n_time {Y : Ly} {q : Nat → Nat → Nat} {nL W nB : Nat} {M : Mm} {A : AS} {Kn : Int32 → Mm → Prop} (hC : SC Y q nL W nB) (hS : MS q nL W nB M A) (hK : KE q nL W nB (rTime A) M Kn) : f_X12_time Y (q 20 0) M Kn := by
  refine ⟨sk_20_0 hC, fun M2 e2 => ?_⟩
  have e2 : M2 = cd q M 0 := e2
  subst e2
  have S2 := cd_MS hC hS 0
  refine hK (0, _, A) _ _ rfl S2 (Ec_H (cd_Ec hC 0 rfl)).1 ?_
  rw [S2.2.2.2.1.1]
theorem bz_D {nL W nB n : Nat} {A : AS} (hI : AI nL W nB n A) : bz (lD (aL A)) := by
  rcases hI.2.2.2.2.2.2.2.2 with ⟨h, _⟩ | h
  · exact Or.inl h
  · exact Or.inr h
theorem l_isDown {Y : Ly} {q : Nat → Nat → Nat} {nL W nB : Nat} {M : Mm} {A : AS} {n : Nat} {Kn : Int32 → Mm → Prop} (hC : SC Y q nL W nB) (hR : SR q nL (mR M)) (hS : CS q nL W nB M A) (hI : AI nL W nB n A) (hK : KD q nL W nB (rDown A) M Kn) : f_X11_isDown Y (q 0 0) M Kn := by
  refine ⟨sk_0_0 hC, _, sr_0_0_6 hR, sk_0_10 hC, ?_⟩
  rw [hS.2.2.2.2.2.1.2.2.2.2.1]
  exact ⟨bz_D hI, hK (0, _, A) _ _ rfl hS (Ec_refl _ _ _) rfl⟩
theorem n_isDown {Y : Ly} {q : Nat → Nat → Nat} {nL W nB : Nat} {M : Mm} {A : AS} {n : Nat} {Kn : Int32 → Mm → Prop} (hC : SC Y q nL W nB) (hS : MS q nL W nB M A) (hI : AI nL W nB n A) (hK : KE q nL W nB (rDown A) M Kn) : f_X12_isDown Y (q 20 0) M Kn := by
  refine ⟨sk_20_0 hC, fun M2 e2 => ?_⟩
  have e2 : M2 = cd q M 0 := e2
  subst e2
  have S2 := cd_MS hC hS 0
  rw [show mI (cd q M 0) (q 20 0) 5 = lD (aL A) from S2.2.2.2.2.1.2.2.2]
  exact ⟨bz_D hI, hK (0, _, A) _ _ rfl S2 (Ec_H (cd_Ec hC 0 rfl)).1 rfl⟩
theorem l_writes {Y : Ly} {q : Nat → Nat → Nat} {nL W nB : Nat} {M : Mm} {A : AS} {Kn : Int32 → Mm → Prop} (hC : SC Y q nL W nB) (hR : SR q nL (mR M)) (hS : CS q nL W nB M A) (hK : KD q nL W nB (rWrites A) M Kn) : f_X11_writes Y (q 0 0) M Kn := by
  refine ⟨sk_0_0 hC, _, sr_0_0_6 hR, sk_0_10 hC, hK (0, _, A) _ _ rfl hS (Ec_refl _ _ _) ?_⟩
  rw [hS.2.2.2.2.2.1.2.2.1]
theorem n_writes {Y : Ly} {q : Nat → Nat → Nat} {nL W nB : Nat} {M : Mm} {A : AS} {Kn : Int32 → Mm → Prop} (hC : SC Y q nL W nB) (hS : MS q nL W nB M A) (hK : KE q nL W nB (rWrites A) M Kn) : f_X12_writes Y (q 20 0) M Kn := by
  refine ⟨sk_20_0 hC, fun M2 e2 => ?_⟩
  have e2 : M2 = cd q M 0 := e2
  subst e2
  have S2 := cd_MS hC hS 0
  refine hK (0, _, A) _ _ rfl S2 (Ec_H (cd_Ec hC 0 rfl)).1 ?_
  rw [show mI (cd q M 0) (q 20 0) 6 = lW (aL A) from S2.2.2.2.2.1.2.1]
/-! crash -/
def crL (L : LSt) (v : Int32) : LSt := (lE L, lS L, v, lW L, if v = 0 then 1 else 0)
def rCrash (v : Int32) (A : AS) : Op := oB (-1 ≤ v ∧ v ≤ 1000) (oB (lD (aL A) = 0) (oR 0 0 (xL A (crL (aL A) v))) (oR 2 0 A)) (oR 1 0 A)
theorem rCrash_D (v : Int32) (A : AS) : Det (rCrash v A) := Det_B (fun _ => Det_B (fun _ => Det_R _ _ _) (fun _ => Det_R _ _ _)) (fun _ => Det_R _ _ _)
theorem rCrash_P {nL W nB n : Nat} {v : Int32} {A : AS} (h : AI nL W nB n A) : Pre nL W nB n (rCrash v A) := by
  have up := AI_up h (Nat.le_add_right n KK)
  refine Pre_B (fun g => Pre_B (fun _ => Pre_R ⟨up.1, up.2.1, up.2.2.1, up.2.2.2.1, up.2.2.2.2.1, up.2.2.2.2.2.1, up.2.2.2.2.2.2.1, up.2.2.2.2.2.2.2.1, ?_⟩) (fun _ => Pre_R up)) (fun _ => Pre_R up)
  by_cases z : v = 0
  · right
    show (if v = 0 then (1 : Int32) else 0) = 1
    rw [if_pos z]
  · left
    refine ⟨by show (if v = 0 then (1 : Int32) else 0) = 0; rw [if_neg z], ?_⟩
    rcases m1_or (m := 1000) (by omega) g with h | ⟨k, hk, h⟩
    · exact Or.inl h
    · refine Or.inr ⟨k, ?_, by omega, h⟩
      rcases Nat.eq_zero_or_pos k with y | y
      · rw [y] at h; exact absurd h z
      · exact y
/-- the class: power, and nothing else of the logs -/
theorem CS_pw {Y : Ly} {q : Nat → Nat → Nat} {nL W nB : Nat} {M M' : Mm} {A : AS} {v d : Int32} (hC : SC Y q nL W nB) (h : CS q nL W nB M A) (g : lD (aL A) = 0) (E : Ec q (fun a b j => a = 0 ∧ b = 10 ∧ (j = 2 ∨ j = 3)) M M') (h2 : mI M' (q 0 10) 2 = v) (h3 : mI M' (q 0 10) 3 = d) : CS q nL W nB M' (xL A (lE (aL A), lS (aL A), v, lW (aL A), d)) := by
  have hd := sdims hC
  obtain ⟨k0, k1, k2, k3, k4, k5, k6⟩ := h
  refine ⟨by rw [(E.1 0 0 0 (by omega)).1]; exact k0, TpC_ec k1 E (by omega) (fun j => by omega), DrC_ec k2 E (fun j => by omega) (fun j => by omega), FetC_ec k3 E (fun j => by omega) (fun j => by omega) (fun j => by omega), GC_ec k4 E (fun b j _ _ => by omega), ⟨⟨?_, ?_, fun l hl => ?_⟩, ?_, ?_, h2, h3, fun _ => LogC_ec (k5.2.2.2.2.2 g) E (fun j => by omega) (fun l b j hl => by omega)⟩, NuC_L (NuC_ec k6 E (fun j _ => (E.1 0 11 j (by omega)).1) (by omega) (by omega)) (fun _ => g)⟩
  · rw [Ec_I E (fun j => by omega)]; exact k5.1.1
  · rw [Ec_I E (fun j => by omega)]; exact k5.1.2.1
  · rw [Ec_I E (fun j => by omega)]; exact k5.1.2.2 l hl
  · rw [Ec_I E (fun j => by omega)]; exact k5.2.1
  · rw [(E.1 0 10 1 (by omega)).1]; exact k5.2.2.1
theorem l_crash {Y : Ly} {q : Nat → Nat → Nat} {nL W nB : Nat} {M : Mm} {A : AS} {v : Int32} {Kn : Int32 → Mm → Prop} (hC : SC Y q nL W nB) (hR : SR q nL (mR M)) (hS : CS q nL W nB M A) (hK : ∀ o M', rCrash v A o → CS q nL W nB M' o.2.2 → Ec q Pc9 M M' → Kn o.1 M') : f_L_crash Y (q 0 0) v M Kn := by
  refine ⟨sk_0_0 hC, ?_⟩
  unfold f_X11_crash f_X11_crash_39
  refine s_within (lo := -1) (hi := 1000) rfl rfl (fun g1 => ⟨fun _ => ⟨sk_0_0 hC, ?_⟩, fun z => absurd z (by decide)⟩) (fun g1 => ⟨fun z => absurd rfl z, fun _ => Or.inl ⟨rfl, hK (1, 0, A) _ (Or.inr ⟨g1, rfl⟩) hS (Ec_refl _ _ _)⟩⟩)
  refine c_power hC hR hS.2.2.2.2.2.1 (fun g2 => ⟨_, sr_0_0_6 hR, sk_0_10 hC, fun M8 e8 => ⟨q 0 10, by rw [e8]; exact sr_0_0_6 hR, ?_⟩⟩) (fun g2 => Or.inr ⟨rfl, hK (2, 0, A) _ (Or.inl ⟨g1, Or.inr ⟨g2, rfl⟩⟩) hS (Ec_refl _ _ _)⟩)
  have fin : ∀ d, d = (if v = 0 then (1 : Int32) else 0) → ∀ M13, M13 = sI M8 (q 0 10) (m1 (mI M8 (q 0 10)) 3 d) → Kn 0 M13 := by
    intro d hd M13 e13
    have E : Ec q (fun a b j => a = 0 ∧ b = 10 ∧ (j = 2 ∨ j = 3)) M M13 := Ec_trans (Ec_sI hC e8 ⟨rfl, rfl, Or.inl rfl⟩) (Ec_sI hC e13 ⟨rfl, rfl, Or.inr rfl⟩)
    have S' := CS_pw (v := v) (d := d) hC hS g2 E (by rw [e13, mI_sI_self, m1_nat _ _ (by decide), e8, mI_sI_self]; exact m1_at _ _ _) (by rw [e13, mI_sI_self]; exact m1_at _ _ _)
    rw [hd] at S'
    exact hK (0, 0, _) _ (Or.inl ⟨g1, Or.inl ⟨g2, rfl⟩⟩) S' (Ec_mono E (fun a b j z => by unfold Pc9; omega))
  refine ⟨fun z => ⟨sk_0_10 hC, Or.inl rfl, fin 0 (by rw [if_neg z])⟩, fun z => ⟨sk_0_10 hC, Or.inr rfl, fin 1 (by rw [if_pos z])⟩⟩
theorem n_crash {Y : Ly} {q : Nat → Nat → Nat} {nL W nB : Nat} {M : Mm} {A : AS} {v : Int32} {Kn : Mm → Prop} (hC : SC Y q nL W nB) (hS : MS q nL W nB M A) (hK : ∀ o M', rCrash v A o → MS q nL W nB M' o.2.2 → Ef q Pm20 M M' → mI M' (q 20 0) 0 = o.1 → Kn M') : f_X12_crash Y (q 20 0) v M Kn := by
  have w5 : mI M (q 20 0) 5 = lD (aL A) := hS.2.2.2.2.1.2.2.2
  have no : ¬ (-1 ≤ v ∧ v ≤ 1000) → f_X12_crash_18 Y (q 20 0) v M Kn 0 := by
    intro g
    unfold f_X12_crash_18 f_X12_crash_42
    exact ⟨sk_20_0 hC, m_goes hC (fun z => absurd rfl z) (fun z => absurd rfl z) (fun _ => ⟨fun _ => hK (1, 0, A) _ (Or.inr ⟨g, rfl⟩) (cd_MS hC hS 1) (Ec_H (cd_Ec hC 1 rfl)).1 (cd_0 _ _ _), fun z => absurd rfl z⟩)⟩
  unfold f_X12_crash f_X12_crash_17
  refine ⟨fun g => no (fun z => Int32.not_lt.mpr z.1 g), fun g1 => ⟨fun g => no (fun z => Int32.not_lt.mpr z.2 g), fun g2 => ?_⟩⟩
  have gc : -1 ≤ v ∧ v ≤ 1000 := ⟨Int32.not_lt.mp g1, Int32.not_lt.mp g2⟩
  unfold f_X12_crash_18 f_X12_crash_39 f_X12_crash_42
  refine ⟨sk_20_0 hC, m_goes hC (fun _ g => ⟨fun z => absurd z (by decide), fun _ => ?_⟩) (fun _ g => ⟨fun _ => hK (2, 0, A) _ (Or.inl ⟨gc, Or.inr ⟨by rw [← w5]; exact g, rfl⟩⟩) (cd_MS hC hS 2) (Ec_H (cd_Ec hC 2 rfl)).1 (cd_0 _ _ _), fun z => absurd rfl z⟩) (fun z => absurd z (by decide))⟩
  rw [w5] at g
  have S2 := cd_MS hC hS 0
  intro M7 e7
  have fin : ∀ d, d = (if v = 0 then (1 : Int32) else 0) → ∀ M10, M10 = sI M7 (q 20 0) (m1 (mI M7 (q 20 0)) 5 d) → Kn M10 := by
    intro d hd M10 e10
    have E : EfH q Pv (cd q M 0) M10 := EfH_trans (EfH_sI hC e7 ⟨rfl, rfl, by omega⟩) (EfH_sI hC e10 ⟨rfl, rfl, by omega⟩)
    have i10 : ∀ j, j ≠ 5 → j ≠ 7 → mI M10 (q 20 0) j = mI (cd q M 0) (q 20 0) j := fun j h5 h7 => by rw [e10, mI_sI_self, m1_nat _ _ h5, e7, mI_sI_self, m1_nat _ _ h7]
    have S' : MS q nL W nB M10 (xN A (crL (aL A) v) (aR A) (aN A)) := by
      refine MS_nu hC S2 E rfl rfl ?_ ?_ ?_ ?_ ?_
      · rw [i10 6 (by decide) (by decide)]; exact S2.2.2.2.2.1.2.1
      · rw [e10, mI_sI_self, m1_nat _ _ (by decide), e7, mI_sI_self]; exact m1_at _ _ _
      · rw [e10, mI_sI_self, m1_at]; exact hd
      · rw [e10]; show mJ M7 (q 20 0) 8 = _; rw [e7]; exact S2.2.2.2.2.2.1
      · rw [e10]; show mJ M7 (q 20 0) 9 = _; rw [e7]; exact S2.2.2.2.2.2.2
    exact hK (0, 0, _) _ (Or.inl ⟨gc, Or.inl ⟨g, rfl⟩⟩) S' (Ef_trans (Ec_H (cd_Ec hC 0 rfl)).1 (Ef_mono E.1 (fun a b j z => z.1))) (by rw [i10 0 (by decide) (by decide)]; exact cd_0 _ _ _)
  exact ⟨fun z => ⟨Or.inl rfl, fin 0 (by rw [if_neg z])⟩, fun z => ⟨Or.inr rfl, fin 1 (by rw [if_pos z])⟩⟩
