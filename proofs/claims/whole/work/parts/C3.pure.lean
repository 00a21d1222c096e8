/-! recover -/
def rcL (L : LSt) : LSt := (lE L, lS L, -1, lW L, 0)
def rcG (nL : Nat) (L : LSt) (G : GSt) : GSt := recK G (fun g => gnv (ntV (nI g) 255 (BS (lS L nL)).reverse)) 8
def rcA (nL : Nat) (A : AS) : AS := (A.1, A.2.1, A.2.2.1, rcG nL (aL A) (aG A), aS A, rcL (aL A), aR A, aR A)
def rRec (nL : Nat) (A : AS) : Op := oR 0 (nI (sm (fun l => (BS (lS (aL A) l)).length) (nL + 1))).toInt64 (rcA nL A)
theorem rRec_P {nL W nB n : Nat} {A : AS} (h : AI nL W nB n A) (hn : n < 2 ^ 31) : Pre nL W nB n (rRec nL A) := by
  have up := AI_up h (Nat.le_add_right n KK)
  refine Pre_R ⟨up.1, up.2.1, up.2.2.1, GI_up (GI_rec h.2.2.2.1 (fun g hg => ?_)) (Nat.le_add_right _ _), up.2.2.2.2.1, up.2.2.2.2.2.1, up.2.2.2.2.2.2.1, up.2.2.2.2.2.2.2.1, Or.inl ⟨rfl, Or.inl rfl⟩⟩
  exact (gnv_ok (ntV_255 (fun b hb => h.2.2.2.2.2.2.2.1 b (List.mem_reverse.mp hb))) hn).1
def Prc (nL : Nat) : Nat → Nat → Nat → Prop := fun a b j => (1 ≤ a ∧ a ≤ nL + 1) ∨ (a = 0 ∧ ((b = 0 ∧ (j = 8 ∨ j = 9)) ∨ (b = 10 ∧ (j = 2 ∨ j = 3)) ∨ (26 ≤ b ∧ b ≤ 32)))
theorem l_recover {Y : Ly} {q : Nat → Nat → Nat} {nL W nB : Nat} {M : Mm} {A : AS} {n : Nat} {Kn : Int32 → Mm → Prop} (hC : SC Y q nL W nB) (hR : SR q nL (mR M)) (hS : CS q nL W nB M A) (hI : AI nL W nB n A) (hn : n < 2 ^ 31) (hK : KD q nL W nB (rRec nL A) M Kn) : f_X11_recover Y (q 0 0) M Kn := by
  have hd := sdims hC
  obtain ⟨k0, k1, k2, k3, k4, k5, k6⟩ := hS
  unfold f_X11_recover
  refine ⟨sk_0_0 hC, _, sr_0_0_6 hR, sk_0_10 hC, Or.inl rfl, fun M5 e5 => ⟨q 0 10, by rw [e5]; exact sr_0_0_6 hR, sk_0_10 hC, fun M8 e8 => ⟨q 0 10, by rw [e8, e5]; exact sr_0_0_6 hR, sk_0_10 hC, q 0 11, by rw [e8, e5]; exact sr_0_10_0 hR, ?_⟩⟩⟩
  have d8 : mI M8 (q 0 11) = mI M (q 0 11) := by rw [e8, I_ne hC _ _ (by decide), e5, I_ne hC _ _ (by decide)]
  refine s_signed (a := 0) (n := 8) (sk_0_11 hC) (by rw [sn_0_11 hC]; omega) (by rw [sn_0_11 hC]; omega) ?_
  rw [d8, beS_pb8 k6.1]
  intro M14 e14 M15 e15
  have j14 : mJ M14 (q 0 0) = m1 (mJ M8 (q 0 0)) 9 (aR A) := by rw [e14, mJ_sJ_self]
  rw [j14, m1_at] at e15
  have j15 : mJ M15 (q 0 0) 8 = aR A ∧ mJ M15 (q 0 0) 9 = aR A := by
    rw [e15, mJ_sJ_self]
    exact ⟨m1_at _ _ _, by rw [m1_nat _ _ (by decide)]; exact m1_at _ _ _⟩
  have hR15 : SR q nL (mR M15) := by rw [e15, e14, e8, e5]; exact hR
  have E15 : Ec q (Prc nL) M M15 := Ec_trans (Ec_sI hC e5 (Or.inr ⟨rfl, Or.inr (Or.inl ⟨rfl, Or.inr rfl⟩)⟩)) (Ec_trans (Ec_sI hC e8 (Or.inr ⟨rfl, Or.inr (Or.inl ⟨rfl, Or.inl rfl⟩)⟩)) (Ec_trans (Ec_sJ hC e14 (Or.inr ⟨rfl, Or.inl ⟨rfl, Or.inr rfl⟩⟩)) (Ec_sJ hC (j := 8) (v := aR A) (by rw [j14]; exact e15) (Or.inr ⟨rfl, Or.inl ⟨rfl, Or.inl rfl⟩⟩))))
  have I15 : mI M15 = mI M8 := by rw [e15]; show mI M14 = _; rw [e14]; rfl
  have tI : ∀ l b, mI M15 (q (l + 1) b) = mI M (q (l + 1) b) := fun l b => by rw [I15, e8, I_ne hC _ _ (by omega), e5, I_ne hC _ _ (by omega)]
  have p13 : mI M15 (q 0 13) = mI M (q 0 13) := Ec_I E15 (fun j => by unfold Prc; omega)
  have p11 : mI M15 (q 0 11) = mI M (q 0 11) := by rw [I15]; exact d8
  have LS15 : LogS q nL W M15 := ⟨by rw [p13]; exact k5.1.1, by rw [p13]; exact k5.1.2.1, fun l hl => by rw [tI]; exact k5.1.2.2 l hl⟩
  have D15 : DkA nL (mI M15 (q 0 11)) (aS A) (lE (aL A)) (lS (aL A)) := by rw [p11]; exact k5.2.1
  refine ⟨_, sr_0_0_10 hR15, sk_0_13 hC, c_load hC hR15 hI.2.2.2.2.1 hI.2.2.2.2.2.1 LS15 D15 (fun M17 F17 LC17 => ?_)⟩
  have E17 : Ec q (Prc nL) M15 M17 := Ec_mono (Ec_Fr hC F17) (fun a b j z => Or.inl z)
  have hR17 : SR q nL (mR M17) := by rw [E17.2]; exact hR15
  have q11 : mI M17 (q 0 11) = mI M (q 0 11) := by rw [Ec_I E17 (fun j => by unfold Prc; omega)]; exact p11
  have D17 : DkA nL (mI M17 (q 0 11)) (aS A) (lE (aL A)) (lS (aL A)) := by rw [q11]; exact k5.2.1
  have G17 : GC q M17 (aG A) := by
    have E' : Ec q (fun a b j => (1 ≤ a ∧ a ≤ nL + 1) ∨ (a = 0 ∧ (b = 0 ∨ b = 10))) M M17 := Ec_trans (Ec_trans (Ec_sI hC e5 (Or.inr ⟨rfl, Or.inr rfl⟩)) (Ec_trans (Ec_sI hC e8 (Or.inr ⟨rfl, Or.inr rfl⟩)) (Ec_trans (Ec_sJ hC e14 (Or.inr ⟨rfl, Or.inl rfl⟩)) (Ec_sJ hC (j := 8) (v := aR A) (by rw [j14]; exact e15) (Or.inr ⟨rfl, Or.inl rfl⟩))))) (Ec_mono (Ec_Fr hC F17) (fun a b j z => Or.inl z))
    exact GC_ec k4 E' (fun b j h1 h2 => by omega)
  refine ⟨_, sr_0_0_12 hR17, sk_0_26 hC, c_gload (L := aL A) hC hR17 hI.2.2.2.2.1 LC17 D17 hI.2.2.2.2.2.2.2.1 hn G17 (fun M21 F21 G21 => ?_)⟩
  have E21 : Ec q (Prc nL) M17 M21 := Ec_mono (Ec_Fr hC F21) (fun a b j z => by unfold Fg at z; unfold Prc; omega)
  have E : Ec q (Prc nL) M M21 := Ec_trans E15 (Ec_trans E17 E21)
  have r10 : mI M21 (q 0 10) = mI M15 (q 0 10) := by
    rw [Fr_I hC F21 (by unfold Fg; omega), Fr_I hC F17 (by omega)]
  have r0 : mJ M21 (q 0 0) = mJ M15 (q 0 0) := by
    rw [Fr_J hC F21 (by unfold Fg; omega), Fr_J hC F17 (by omega)]
  have r11 : mI M21 (q 0 11) = mI M (q 0 11) := by rw [Fr_I hC F21 (by unfold Fg; omega)]; exact q11
  have r13 : mI M21 (q 0 13) = mI M (q 0 13) := Ec_I E (fun j => by unfold Prc; omega)
  have LC21 : LogC q nL W nB M21 (aS A) (lE (aL A)) (lS (aL A)) := LogC_ec LC17 (Ec_Fr hC F21) (fun j => by unfold Fg; omega) (fun l b j hl => by unfold Fg; omega)
  refine hK (0, _, rcA nL A) _ _ rfl ?_ (Ec_mono E (fun a b j z => by unfold Prc at z; unfold Pc9; omega)) rfl
  refine ⟨by rw [(E.1 0 0 0 (by unfold Prc; omega)).1]; exact k0, TpC_ec k1 E (by unfold Prc; omega) (fun j => by unfold Prc; omega), DrC_ec k2 E (fun j => by unfold Prc; omega) (fun j => by unfold Prc; omega), FetC_ec k3 E (fun j => by unfold Prc; omega) (fun j => by unfold Prc; omega) (fun j => by unfold Prc; omega), G21, ⟨⟨?_, ?_, fun l hl => (LC21.2.2 l hl).1⟩, ?_, ?_, ?_, ?_, fun _ => LC21⟩, ?_, fun _ => ?_⟩
  · rw [r13]; exact k5.1.1
  · rw [r13]; exact k5.1.2.1
  · rw [r11]; exact k5.2.1
  · rw [r10, I15, e8, mI_sI_self, m1_nat _ _ (by decide), e5, mI_sI_self, m1_nat _ _ (by decide)]; exact k5.2.2.1
  · rw [r10, I15, e8, mI_sI_self]; exact m1_at _ _ _
  · rw [r10, I15, e8, mI_sI_self, m1_nat _ _ (by decide), e5, mI_sI_self]; exact m1_at _ _ _
  · rw [r11]; exact k6.1
  · rw [r0]; exact j15
theorem n_recover {Y : Ly} {q : Nat → Nat → Nat} {nL W nB : Nat} {M : Mm} {A : AS} {n : Nat} {Kn : Int32 → Mm → Prop} (hC : SC Y q nL W nB) (hM : SM q (mR M)) (hS : MS q nL W nB M A) (hI : AI nL W nB n A) (hn : n < 2 ^ 31) (hK : KE q nL W nB (rRec nL A) M Kn) : f_X12_recover Y (q 20 0) M Kn := by
  unfold f_X12_recover
  refine ⟨sk_20_0 hC, fun M2 e2 => ⟨Or.inl rfl, fun M4 e4 M5 e5 M6 e6 => ?_⟩⟩
  have e2 : M2 = cd q M 0 := e2
  have S2 := cd_MS hC hS 0
  rw [← e2] at S2
  have J5 : mJ M5 (q 20 0) = mJ M2 (q 20 0) := by rw [e5]; show mJ M4 (q 20 0) = _; rw [e4]; rfl
  rw [J5, S2.2.2.2.2.2.1] at e6
  have E6 : EfH q Pv M2 M6 := EfH_trans (EfH_sI hC e4 ⟨rfl, rfl, by omega⟩) (EfH_trans (EfH_sI hC e5 ⟨rfl, rfl, by omega⟩) (Ec_H (Ec_sJ hC (j := 9) (v := aR A) (by rw [J5]; exact e6) ⟨rfl, rfl, by omega⟩)))
  have I6 : mI M6 = mI M5 := by rw [e6]; rfl
  have i6 : ∀ j, j ≠ 5 → j ≠ 7 → mI M6 (q 20 0) j = mI M2 (q 20 0) j := fun j h5 h7 => by rw [I6, e5, mI_sI_self, m1_nat _ _ h7, e4, mI_sI_self, m1_nat _ _ h5]
  have S6 : MS q nL W nB M6 (xN A (rcL (aL A)) (aR A) (aR A)) := by
    refine MS_nu hC S2 E6 rfl rfl ?_ ?_ ?_ ?_ ?_
    · rw [i6 6 (by decide) (by decide)]; exact S2.2.2.2.2.1.2.1
    · rw [I6, e5, mI_sI_self]; exact m1_at _ _ _
    · rw [I6, e5, mI_sI_self, m1_nat _ _ (by decide), e4, mI_sI_self]; exact m1_at _ _ _
    · rw [e6, mJ_sJ_self, m1_nat _ _ (by decide)]; exact S2.2.2.2.2.2.1
    · rw [e6, mJ_sJ_self]; exact m1_at _ _ _
  have hM6 : SM q (mR M6) := by rw [e6]; show SM q (mR M5); rw [e5]; show SM q (mR M4); rw [e4, e2]; exact hM
  have hI' : IL nL W nB n (aS A) (rcL (aL A)) := ⟨hI.2.2.2.2.1, hI.2.2.2.2.2.1, hI.2.2.2.2.2.2.1, hI.2.2.2.2.2.2.2.1, Or.inl ⟨rfl, Or.inl rfl⟩⟩
  refine m_gload hC hM6 hI' hn S6.2.2.2.2.1 S6.2.2.2.1 (fun M' E' G' => ?_)
  refine hK (0, _, rcA nL A) _ _ rfl ?_ ?_ rfl
  · obtain ⟨h1, h2, h3, h4, h5, h6, h7⟩ := S6
    have F := E'.1
    exact ⟨TpM_ec h1 F (by unfold P4 Pg; omega) (fun j => by unfold P4 Pg; omega), DrM_ec h2 F (by unfold P4 Pg; omega) (fun b j _ _ => by unfold P4 Pg; omega), FetM_ec h3 F (by unfold P4 Pg; omega) (fun j => by unfold P4 Pg; omega), G', ML_ef h5 E' (fun a b j z => by unfold PLg at z; unfold P4 Pg; omega) (by unfold P4 Pg; omega) (by unfold P4 Pg; omega) (by unfold P4 Pg; omega), by rw [(F.1 20 0 8 (by unfold P4 Pg; omega)).2]; exact h6, by rw [(F.1 20 0 9 (by unfold P4 Pg; omega)).2]; exact h7⟩
  · refine Ef_trans (by rw [e2]; exact (Ec_H (cd_Ec hC 0 rfl)).1) (Ef_trans (Ef_mono E6.1 (fun a b j z => z.1)) (Ef_mono E'.1 (fun a b j z => ?_)))
    rcases z with z | z
    · exact z.1
    · exact z.1
