/-! producer -/
def xN (A : AS) (L : LSt) (r i : Int64) : AS := (A.1, A.2.1, A.2.2.1, A.2.2.2.1, A.2.2.2.2.1, L, r, i)
def spL (L : LSt) (x : Int32 × Nat × Int32) : LSt := (lE L, lS L, x.1, lW L + nI x.2.1, x.2.2)
def SpO1 (L : LSt) (x : Int32 × Nat × Int32) : Prop := ∃ full, SpR (lL L) 1 x.1 x.2.1 x.2.2 full
theorem SpO1_fun {L : LSt} (x y : Int32 × Nat × Int32) (h : SpO1 L x) (h' : SpO1 L y) : x = y := by
  obtain ⟨f, h⟩ := h
  obtain ⟨f', h'⟩ := h'
  obtain ⟨a, b, c, _⟩ := SpR_fun h h'
  exact Prod.ext a (Prod.ext b c)
def rPrd (A : AS) : Op := oB (lD (aL A) = 0) (oB (aN A = aR A) (oE (SpO1 (aL A)) (fun x => oB (x.2.2 = 0) (oR 0 (aN A) (xN A (spL (aL A) x) (aR A + 100) (aN A + 1))) (oR 0 (-3) (xN A (spL (aL A) x) (aR A + 100) (aN A))))) (oR 0 (aN A) (xN A (aL A) (aR A) (aN A + 1)))) (oR 1 0 A)
theorem rPrd_D (A : AS) : Det (rPrd A) := Det_B (fun _ => Det_B (fun _ => Det_E SpO1_fun (fun _ _ => Det_B (fun _ => Det_R _ _ _) (fun _ => Det_R _ _ _))) (fun _ => Det_R _ _ _)) (fun _ => Det_R _ _ _)
theorem spL_IL {nL W nB n : Nat} {st : Nat → Int64} {L : LSt} {x : Int32 × Nat × Int32} (h : IL nL W nB n st L) (hx : SpO1 L x) : IL nL W nB n st (spL L x) := by
  obtain ⟨f, hx⟩ := hx
  refine ⟨h.1, h.2.1, h.2.2.1, h.2.2.2.1, ?_⟩
  rcases SpR_dn hx with z | ⟨z, _⟩
  · exact Or.inl ⟨z, (SpR_up hx z).2.2⟩
  · exact Or.inr z
theorem rPrd_P {nL W nB n : Nat} {A : AS} (h : AI nL W nB n A) : Pre nL W nB n (rPrd A) := by
  have up := AI_up h (Nat.le_add_right n KK)
  refine Pre_B (fun g => Pre_B (fun _ => Pre_E (fun x hx => ?_)) (fun _ => Pre_R ⟨up.1, up.2.1, up.2.2.1, up.2.2.2.1, up.2.2.2.2⟩)) (fun _ => Pre_R up)
  have := spL_IL up.2.2.2.2 hx
  exact Pre_B (fun _ => Pre_R ⟨up.1, up.2.1, up.2.2.1, up.2.2.2.1, this⟩) (fun _ => Pre_R ⟨up.1, up.2.1, up.2.2.1, up.2.2.2.1, this⟩)
set_option maxRecDepth 8000 in
theorem Dk_low {nL W nB : Nat} {S : Nat → List Sg} {f f' : Nat → Int32} {st en : Nat → Int64} (hG : Geo nL W nB S) (hD : DkA nL f st en S) (hf : ∀ j, 1024 ≤ j → f' j = f j) : DkA nL f' st en S := by
  intro l hl
  obtain ⟨d1, d2⟩ := hD l hl
  refine ⟨Lie_move d1 (fun j hj => hf _ ?_), fun p hp => Lie_move (d2 p hp) (fun j hj => hf _ ?_)⟩
  · have : 1 * 1024 ≤ (l + 1) * 1024 := Nat.mul_le_mul_right _ (by omega)
    omega
  · have := (PS_lo hG hl hp).1
    omega
theorem LogC_ec {q : Nat → Nat → Nat} {nL W nB : Nat} {P : Nat → Nat → Nat → Prop} {M M' : Mm} {S : Nat → List Sg} {st en : Nat → Int64} (h : LogC q nL W nB M st en S) (e : Ec q P M M') (p13 : ∀ j, ¬ P 0 13 j) (pl : ∀ l b j, l ≤ nL → ¬ P (l + 1) b j) : LogC q nL W nB M' st en S := by
  obtain ⟨l1, l2, l3⟩ := h
  have tI : ∀ l b, l ≤ nL → mI M' (q (l + 1) b) = mI M (q (l + 1) b) := fun l b hl => Ec_I e (fun j => pl l b j hl)
  have tJ : ∀ l b, l ≤ nL → mJ M' (q (l + 1) b) = mJ M (q (l + 1) b) := fun l b hl => Ec_J e (fun j => pl l b j hl)
  refine ⟨by rw [Ec_I e p13]; exact l1, by rw [Ec_I e p13]; exact l2, fun l hl => ?_⟩
  obtain ⟨t1, t2, t3, t4⟩ := l3 l hl
  exact ⟨by rw [tI l 0 hl]; exact t1, TabM_of t2 (fun c => tI l c hl), by rw [tJ l 0 hl]; exact t3, by rw [tJ l 0 hl]; exact t4⟩
def Pn : Nat → Nat → Nat → Prop := fun a b j => a = 0 ∧ ((b = 0 ∧ (j = 8 ∨ j = 9)) ∨ b = 10 ∨ b = 11 ∨ b = 12)
theorem CS_nu {Y : Ly} {q : Nat → Nat → Nat} {nL W nB : Nat} {M M' : Mm} {A : AS} {L : LSt} {r i : Int64} (hC : SC Y q nL W nB) (h : CS q nL W nB M A) (E : Ec q Pn M M') (hL : CL q nL W nB M' (aS A) L) (hN : NuC q M' L r i) : CS q nL W nB M' (xN A L r i) := by
  have hd := sdims hC
  obtain ⟨h0, h1, h2, h3, h4, h5, h6⟩ := h
  exact ⟨by rw [(E.1 0 0 0 (by unfold Pn; omega)).1]; exact h0, TpC_ec h1 E (by unfold Pn; omega) (fun j => by unfold Pn; omega), DrC_ec h2 E (fun j => by unfold Pn; omega) (fun j => by unfold Pn; omega), FetC_ec h3 E (fun j => by unfold Pn; omega) (fun j => by unfold Pn; omega) (fun j => by unfold Pn; omega), GC_ec h4 E (fun b j _ _ => by unfold Pn; omega), hL, hN⟩
theorem Ec_sJ {Y : Ly} {q : Nat → Nat → Nat} {nL W nB : Nat} {P : Nat → Nat → Nat → Prop} {M M' : Mm} (hC : SC Y q nL W nB) {a b j : Nat} {v : Int64} (e : M' = sJ M (q a b) (m1 (mJ M (q a b)) j v)) (h : P a b j) : Ec q P M M' := ⟨(Ef_sJ hC e h).1, by rw [e]; rfl⟩
theorem i64_p1 (x : Int64) : x + 1 - 1 = x := by
  rw [Int64.sub_eq_add_neg, Int64.add_assoc, ← Int64.sub_eq_add_neg, Int64.sub_self, Int64.add_zero]
theorem l_producer {Y : Ly} {q : Nat → Nat → Nat} {nL W nB : Nat} {M : Mm} {A : AS} {n : Nat} {Kn : Int32 → Mm → Prop} (hC : SC Y q nL W nB) (hR : SR q nL (mR M)) (hA : Rsl Y q) (hS : CS q nL W nB M A) (hI : AI nL W nB n A) (hK : KC q nL W nB (rPrd A) M Kn) : f_L_producer Y (q 0 0) (q 21 0) M Kn := by
  have hd := sdims hC
  obtain ⟨hN1, hN2⟩ := hS.2.2.2.2.2.2
  have hCL := hS.2.2.2.2.2.1
  refine ⟨sk_0_0 hC, ?_⟩
  unfold f_X11_producer
  refine ⟨sk_0_0 hC, c_power hC hR hCL (fun g => ?_) (fun g => ⟨rfl, K_no (by decide) hK (Or.inr ⟨g, rfl⟩) hS (Ec_refl _ _ _)⟩)⟩
  obtain ⟨n8, n9⟩ := hN2 g
  rw [n8, n9]
  have m9 : ∀ a b j, Pn a b j → Pc9 a b j := fun a b j z => by unfold Pn at z; unfold Pc9; omega
  refine ⟨fun g2 => ?_, fun g2 => ?_⟩
  · unfold f_X11_producer_64
    intro M4 e4
    rw [n8] at e4
    have v8 : mJ M4 (q 0 0) 8 = aN A + 1 := by rw [e4, mJ_sJ_self]; exact m1_at _ _ _
    rw [v8, i64_p1]
    have E4 : Ec q Pn M M4 := Ec_sJ hC e4 ⟨rfl, Or.inl ⟨rfl, Or.inl rfl⟩⟩
    refine K_st hC hA hK (Or.inl ⟨g, Or.inr ⟨g2, rfl⟩⟩) (CS_nu hC hS E4 ?_ ⟨?_, fun _ => ⟨v8, ?_⟩⟩) (Ec_mono E4 m9)
    · exact CL_ec (P := fun a b j => a = 0 ∧ b = 0) hCL (Ec_sJ hC e4 ⟨rfl, rfl⟩) (fun j => by omega) (fun j => by omega) (fun j => by omega) (fun l b j hl => by omega)
    · rw [e4]; exact hN1
    · rw [e4, mJ_sJ_self, m1_nat _ _ (by decide)]; exact n9
  · intro M6 e6
    have v9 : mJ M6 (q 0 0) 9 = aR A + 100 := by rw [e6, mJ_sJ_self]; exact m1_at _ _ _
    have hR6 : SR q nL (mR M6) := by rw [e6]; exact hR
    refine ⟨_, sr_0_0_7 hR6, ?_⟩
    rw [v9]
    refine w_put (a := 0) (n := 8) (sk_0_12 hC) (by rw [sn_0_12 hC]; decide) (by rw [sn_0_12 hC]; decide) ?_
    have e612 : mI M6 = mI M := by rw [e6]; rfl
    rw [e612]
    obtain ⟨M8, e8⟩ : ∃ M8, M8 = sI M6 (q 0 12) (wr (mI M (q 0 12)) 0 (pb (aR A + 100) 8)) := ⟨_, rfl⟩
    rw [← e8]
    have hR8 : SR q nL (mR M8) := by rw [e8]; exact hR6
    have i8 : ∀ c, c ≠ 12 → mI M8 (q 0 c) = mI M (q 0 c) := fun c hc => by rw [e8, I_ne hC _ _ (by omega), e612]
    refine ⟨_, sr_0_0_6 hR8, _, sr_0_0_7 hR8, sk_0_10 hC, ?_⟩
    have hlf : LfOK (lL (aL A)) := by
      rcases hI.2.2.2.2.2.2.2.2 with ⟨_, h⟩ | h
      · exact h
      · rw [g] at h; exact absurd h (by decide)
    refine w_write2 (p := 0) (a := 0) (n := 8) (sk_0_10 hC) (sk_0_11 hC) (sk_0_12 hC) (q_ne hC (by decide)) (q_ne hC (by decide)) (q_ne hC (by decide)) (sr_0_10_0 hR8) (by rw [sn_0_11 hC]; omega) (by rw [sn_0_12 hC]; decide) (by rw [sn_0_11 hC]; omega) (by rw [sn_0_12 hC]; decide) (by rw [i8 10 (by decide), hCL.2.2.2.2.1]; exact g) (by rw [i8 10 (by decide), hCL.2.2.2.1]; exact hlf) ?_
    intro l' ad dn full f hSp hout hfull
    rw [i8 10 (by decide), hCL.2.2.2.1, show tch 0 8 = 1 from rfl] at hSp
    rw [i8 10 (by decide), hCL.2.2.1]
    have hfu := SpR_1 hSp
    have hX0 : SpO1 (aL A) (l', ad, dn) := ⟨full, hSp⟩
    obtain ⟨M11, e11⟩ : ∃ M11, M11 = dk M8 (q 0 10) (q 0 11) f (lW (aL A) + nI ad) l' dn := ⟨_, rfl⟩
    rw [← e11]
    have R11 : mR M11 = mR M := by rw [e11, dk_R, e8]; show mR M6 = _; rw [e6]; rfl
    have d11 : mI M11 (q 0 11) = f := by rw [e11]; exact dk_r _ _ _ _ _ (q_ne hC (by decide))
    have Ln : Lie f 0 (pb (aR A + 100) 8) := by
      rw [hfull hfu, e8, mI_sI_self]
      exact cp_Lie (wr_Lie _ _ _) (by rw [pb_len]; exact Nat.le_refl _)
    have hlow : ∀ j, 1024 ≤ j → f j = mI M (q 0 11) j := fun j hj => by rw [hout j (Or.inr (by omega)), i8 11 (by decide)]
    have J11 : mJ M11 (q 0 0) = m1 (mJ M (q 0 0)) 9 (aR A + 100) := by rw [e11, dk_J, e8]; show mJ M6 (q 0 0) = _; rw [e6, mJ_sJ_self]
    have E11 : Ec q Pn M M11 := by
      refine ⟨fun a b j np => ⟨?_, ?_⟩, R11⟩
      · unfold Pn at np
        by_cases z : a = 0 ∧ (b = 10 ∨ b = 11 ∨ b = 12)
        · omega
        · rw [e11, dk_n _ _ _ _ _ (q_ne hC (by omega)) (q_ne hC (by omega)), e8, I_ne hC _ _ (by omega), e612]
      · by_cases z : a = 0 ∧ b = 0
        · obtain ⟨rfl, rfl⟩ := z
          rw [J11, m1_nat _ _ (fun z => np ⟨rfl, Or.inl ⟨rfl, Or.inr z⟩⟩)]
        · rw [e11, dk_J, e8]; show mJ M6 (q a b) j = _; rw [e6, J_ne hC _ _ z]
    have C11 : CL q nL W nB M11 (aS A) (spL (aL A) (l', ad, dn)) := by
      refine ⟨⟨?_, ?_, fun l hl => ?_⟩, ?_, ?_, ?_, ?_, fun z => ?_⟩
      · rw [Ec_I E11 (fun j => by unfold Pn; omega)]; exact hCL.1.1
      · rw [Ec_I E11 (fun j => by unfold Pn; omega)]; exact hCL.1.2.1
      · rw [Ec_I E11 (fun j => by unfold Pn; omega)]; exact hCL.1.2.2 l hl
      · rw [d11]; exact Dk_low hI.2.2.2.2.1 hCL.2.1 hlow
      · rw [e11, dk_1]; rfl
      · rw [e11, dk_2]; rfl
      · rw [e11, dk_3]; rfl
      · exact LogC_ec (hCL.2.2.2.2.2 g) E11 (fun j => by unfold Pn; omega) (fun l b j hl => by unfold Pn; omega)
    rcases SpR_dn hSp with z | ⟨z, _⟩
    · subst z
      refine ⟨fun _ => ?_, fun z => absurd z (by decide)⟩
      unfold f_X11_producer_64
      intro M4 e4
      have v8 : mJ M11 (q 0 0) 8 = aN A := by rw [J11, m1_nat _ _ (by decide)]; exact n8
      rw [v8] at e4
      have v8' : mJ M4 (q 0 0) 8 = aN A + 1 := by rw [e4, mJ_sJ_self]; exact m1_at _ _ _
      rw [v8', i64_p1]
      have E4 : Ec q Pn M11 M4 := Ec_sJ hC e4 ⟨rfl, Or.inl ⟨rfl, Or.inl rfl⟩⟩
      refine K_st hC hA hK (Or.inl ⟨g, Or.inl ⟨by rw [g2], (l', ad, 0), hX0, Or.inl ⟨rfl, rfl⟩⟩⟩) (CS_nu hC hS (Ec_trans E11 E4) ?_ ⟨?_, fun _ => ⟨v8', ?_⟩⟩) (Ec_mono (Ec_trans E11 E4) m9)
      · exact CL_ec (P := fun a b j => a = 0 ∧ b = 0) C11 (Ec_sJ hC e4 ⟨rfl, rfl⟩) (fun j => by omega) (fun j => by omega) (fun j => by omega) (fun l b j hl => by omega)
      · rw [e4]; show Lie (mI M11 (q 0 11)) 0 _; rw [d11]; exact Ln
      · rw [e4, mJ_sJ_self, m1_nat _ _ (by decide), J11]; exact m1_at _ _ _
    · subst z
      refine ⟨fun z => absurd (if_neg (by decide)) z, fun _ => ?_⟩
      refine K_st hC hA hK (Or.inl ⟨g, Or.inl ⟨by rw [g2], (l', ad, 1), hX0, Or.inr ⟨by dsimp only; decide, rfl⟩⟩⟩) (CS_nu hC hS E11 C11 ⟨by rw [d11]; exact Ln, fun z => absurd z (by show ¬ (1 : Int32) = 0; decide)⟩) (Ec_mono E11 m9)
def Pv : Nat → Nat → Nat → Prop := fun a b j => a = 20 ∧ b = 0 ∧ (j = 0 ∨ (5 ≤ j ∧ j ≤ 9))
theorem MS_nu {Y : Ly} {q : Nat → Nat → Nat} {nL W nB : Nat} {M M' : Mm} {A : AS} {L : LSt} {r i : Int64} (hC : SC Y q nL W nB) (h : MS q nL W nB M A) (E : EfH q Pv M M') (hE : lE L = lE (aL A)) (hSg : lS L = lS (aL A)) (h6 : mI M' (q 20 0) 6 = lW L) (h7 : mI M' (q 20 0) 7 = lL L) (h5 : mI M' (q 20 0) 5 = lD L) (h8 : mJ M' (q 20 0) 8 = r) (h9 : mJ M' (q 20 0) 9 = i) : MS q nL W nB M' (xN A L r i) := by
  obtain ⟨g1, g2, g3, g4, g5, g6, g7⟩ := h
  have F := E.1
  refine ⟨TpM_ec g1 F (by unfold Pv; omega) (fun j => by unfold Pv; omega), DrM_ec g2 F (by unfold Pv; omega) (fun b j _ _ => by unfold Pv; omega), FetM_ec g3 F (by unfold Pv; omega) (fun j => by unfold Pv; omega), GM_ef hC g4 F (by unfold Pv; omega) (fun b j _ _ => by unfold Pv; omega), ⟨?_, h6, h7, h5⟩, h8, h9⟩
  obtain ⟨B, hp, ht, hLM⟩ := g5.1
  refine ⟨B, hp, ht, ?_⟩
  show LogM q nL W nB M' (aS A) (lE L) (lS L) B hp ht
  rw [hE, hSg]
  exact LogM_ef hLM E (fun a b j z => by unfold PLg at z; unfold Pv; omega)
theorem n_producer {Y : Ly} {q : Nat → Nat → Nat} {nL W nB : Nat} {M : Mm} {A : AS} {n : Nat} {Kn : Int64 → Mm → Prop} (hC : SC Y q nL W nB) (hS : MS q nL W nB M A) (hI : AI nL W nB n A) (hK : KM q nL W nB (rPrd A) M Kn) : f_X12_producer Y (q 20 0) M Kn := by
  have w5 : mI M (q 20 0) 5 = lD (aL A) := hS.2.2.2.2.1.2.2.2
  have w6 : mI M (q 20 0) 6 = lW (aL A) := hS.2.2.2.2.1.2.1
  have w7 : mI M (q 20 0) 7 = lL (aL A) := hS.2.2.2.2.1.2.2.1
  obtain ⟨j8, j9⟩ := hS.2.2.2.2.2
  have mp : ∀ a b j, Pv a b j → Pm20 a b j := fun a b j z => z.1
  unfold f_X12_producer
  refine ⟨sk_20_0 hC, ?_⟩
  rw [w5]
  refine ⟨fun g => ?_, fun g => ?_⟩
  · unfold f_X12_producer_13
    intro M3 e3
    have e3 : M3 = cd q M 0 := e3
    have z3 : mI M3 (q 20 0) 0 = 0 := by rw [e3, cd_0]
    have i3 : ∀ j, j ≠ 0 → mI M3 (q 20 0) j = mI M (q 20 0) j := fun j hj => by rw [e3]; unfold cd; rw [mI_sI_self, m1_nat _ _ hj]
    have J3 : mJ M3 = mJ M := by rw [e3]; rfl
    have E3 : EfH q Pv M M3 := by rw [e3]; exact Ec_H (cd_Ec hC 0 ⟨rfl, rfl, Or.inl rfl⟩)
    refine ⟨fun _ => ?_, fun z => absurd (by rw [z3]; decide) z⟩
    rw [J3, j8, j9]
    refine ⟨fun g2 => ?_, fun g2 => ?_⟩
    · unfold f_X12_producer_72
      intro M6 e6
      rw [J3, j9] at e6
      have v9 : mJ M6 (q 20 0) 9 = aN A + 1 := by rw [e6, mJ_sJ_self]; exact m1_at _ _ _
      rw [v9, i64_p1]
      have I6 : mI M6 = mI M3 := by rw [e6]; rfl
      have E6 : EfH q Pv M M6 := EfH_trans E3 (Ec_H (Ec_sJ hC (j := 9) (v := aN A + 1) (by rw [J3]; exact e6) ⟨rfl, rfl, by omega⟩))
      refine hK _ _ _ (Or.inl ⟨g, Or.inr ⟨g2, rfl⟩⟩) (MS_nu hC hS E6 rfl rfl ?_ ?_ ?_ ?_ v9) (Ef_mono E6.1 mp) (by rw [I6]; exact z3) (fun _ => rfl)
      · rw [I6, i3 6 (by decide)]; exact w6
      · rw [I6, i3 7 (by decide)]; exact w7
      · rw [I6, i3 5 (by decide)]; exact w5
      · rw [e6, mJ_sJ_self, m1_nat _ _ (by decide)]; exact j8
    · have hlf : LfOK (lL (aL A)) := by
        rcases hI.2.2.2.2.2.2.2.2 with ⟨_, h⟩ | h
        · exact h
        · rw [g] at h; exact absurd h (by decide)
      refine m_spend (n := 1) (sk_20_0 hC) (by decide) (by rw [i3 7 (by decide), w7]; exact hlf) ?_
      intro l' ad dn full hSp r hr hrf
      rw [i3 7 (by decide), w7] at hSp
      have hr1 : r = 1 := hrf.mpr (SpR_1 hSp)
      subst hr1
      refine ⟨fun z => absurd z (by decide), fun _ => ?_⟩
      have hX0 : SpO1 (aL A) (l', ad, dn) := ⟨full, hSp⟩
      obtain ⟨M8, e8⟩ : ∃ M8, M8 = sI M3 (q 20 0) (m1 (m1 (m1 (mI M3 (q 20 0)) 6 (mI M3 (q 20 0) 6 + nI ad)) 7 l') 5 dn) := ⟨_, rfl⟩
      rw [← e8]
      have I8 : mI M8 (q 20 0) = m1 (m1 (m1 (mI M3 (q 20 0)) 6 (mI M3 (q 20 0) 6 + nI ad)) 7 l') 5 dn := by rw [e8, mI_sI_self]
      have E8 : EfH q Pv M3 M8 := by
        refine Ec_H ⟨fun a b j np => ⟨?_, by rw [e8]; rfl⟩, by rw [e8]; rfl⟩
        by_cases z : a = 20 ∧ b = 0
        · obtain ⟨rfl, rfl⟩ := z
          unfold Pv at np
          rw [I8, m1_nat _ _ (by omega), m1_nat _ _ (by omega), m1_nat _ _ (by omega)]
        · rw [e8, I_ne hC _ _ z]
      have J8 : mJ M8 = mJ M := by rw [e8]; exact J3
      unfold f_X12_producer_57
      intro M11 e11
      rw [J8, J3, j8] at e11
      have I11 : mI M11 = mI M8 := by rw [e11]; rfl
      have E11 : EfH q Pv M M11 := EfH_trans E3 (EfH_trans E8 (Ec_H (Ec_sJ hC (j := 8) (v := aR A + 100) (by rw [J8]; exact e11) ⟨rfl, rfl, by omega⟩)))
      have v5 : mI M11 (q 20 0) 5 = dn := by rw [I11, I8, m1_at]
      have v6 : mI M11 (q 20 0) 6 = lW (aL A) + nI ad := by rw [I11, I8, m1_nat _ _ (by decide), m1_nat _ _ (by decide), m1_at, i3 6 (by decide), w6]
      have v7 : mI M11 (q 20 0) 7 = l' := by rw [I11, I8, m1_nat _ _ (by decide), m1_at]
      have v0 : mI M11 (q 20 0) 0 = 0 := by rw [I11, I8, m1_nat _ _ (by decide), m1_nat _ _ (by decide), m1_nat _ _ (by decide)]; exact z3
      have v8 : mJ M11 (q 20 0) 8 = aR A + 100 := by rw [e11, mJ_sJ_self]; exact m1_at _ _ _
      have v9 : mJ M11 (q 20 0) 9 = aN A := by rw [e11, mJ_sJ_self, m1_nat _ _ (by decide)]; exact j9
      rw [v5]
      refine ⟨fun z => ?_, fun z => ?_⟩
      · subst z
        unfold f_X12_producer_72
        intro M6 e6
        rw [v9] at e6
        have u9 : mJ M6 (q 20 0) 9 = aN A + 1 := by rw [e6, mJ_sJ_self]; exact m1_at _ _ _
        rw [u9, i64_p1]
        have I6 : mI M6 = mI M11 := by rw [e6]; rfl
        have E6 : EfH q Pv M M6 := EfH_trans E11 (Ec_H (Ec_sJ hC e6 ⟨rfl, rfl, by omega⟩))
        refine hK _ _ _ (Or.inl ⟨g, Or.inl ⟨g2, (l', ad, 0), hX0, Or.inl ⟨rfl, rfl⟩⟩⟩) (MS_nu hC hS E6 rfl rfl (by rw [I6]; exact v6) (by rw [I6]; exact v7) (by rw [I6]; exact v5) ?_ u9) (Ef_mono E6.1 mp) (by rw [I6]; exact v0) (fun _ => rfl)
        rw [e6, mJ_sJ_self, m1_nat _ _ (by decide)]; exact v8
      · exact hK _ _ _ (Or.inl ⟨g, Or.inl ⟨g2, (l', ad, dn), hX0, Or.inr ⟨z, rfl⟩⟩⟩) (MS_nu hC hS E11 rfl rfl v6 v7 v5 v8 v9) (Ef_mono E11.1 mp) v0 (fun _ => rfl)
  · unfold f_X12_producer_13
    intro M3 e3
    have e3 : M3 = cd q M 1 := e3
    subst e3
    exact ⟨fun z => by rw [cd_0] at z; exact absurd z (by decide), fun _ => M_no hC (by decide) hK (Or.inr ⟨g, rfl⟩) hS⟩
