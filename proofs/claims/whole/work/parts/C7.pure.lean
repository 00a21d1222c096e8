set_option maxRecDepth 20000 in
theorem TkN_I {nL W nB : Nat} {st : Nat → Int64} (hW : 1 ≤ W) : ∀ {N n : Nat} {G G' : GSt} {L L' : LSt}, TkN nL W nB N G L G' L' → IL nL W nB n st L → GI n G → gT G + N ≤ 100000 → n + 8000 * N < 2 ^ 39 → IL nL W nB (n + 8000 * N) st L' ∧ GI (n + 8000 * N) G'
  | 0, n, G, G', L, L', h, hI, hG, _, _ => by rw [h.1, h.2]; exact ⟨hI, hG⟩
  | N + 1, n, G, G', L, L', ⟨G2, L2, h1, h2⟩, hI, hG, ht, hn => by
    obtain ⟨i1, i2⟩ := TGr_I hW h1 (by omega) hI (GI_tm hG (by omega)) (by omega)
    rcases h2 with ⟨_, h2⟩ | ⟨_, rfl, rfl⟩
    · have e : gT G2 = gT G + 1 := TGr_tm h1
      have := TkN_I hW h2 i1 i2 (by omega) (by omega)
      rw [show n + 8000 * (N + 1) = n + 1000 * 8 + 8000 * N by omega]
      exact this
    · exact ⟨IL_up i1 (by omega), GI_up i2 (by omega)⟩
theorem rTicks_P {Y : Ly} {q : Nat → Nat → Nat} {nL W nB : Nat} {n : Nat} {v : Int32} {A : AS} (hC : SC Y q nL W nB) (h : AI nL W nB n A) (hn : n < 2 ^ 38) : Pre nL W nB n (rTicks nL W nB v A) := by
  have hd := sdims hC
  have up := AI_up h (Nat.le_add_right n KK)
  refine Pre_B (fun g => Pre_B (fun _ => Pre_B (fun g4 => Pre_E (fun x hx => Pre_R ?_)) (fun _ => Pre_R up)) (fun _ => Pre_R up)) (fun _ => Pre_R up)
  obtain ⟨N, hN1, hN, rfl⟩ := v200 g
  rw [nI_clamp (by omega)] at hx g4
  obtain ⟨i1, i2⟩ := TkN_I hd.2.2.1 hx h.2.2.2.2 h.2.2.2.1 g4 (by omega)
  exact ⟨up.1, up.2.1, up.2.2.1, GI_up i2 (by unfold KK; omega), IL_up i1 (by unfold KK; omega)⟩
/-! group -/
def grV (G : GSt) (g : Nat) (w : Int32) : Int32 := if w = 0 then nI (gN G g) else if w = 1 then nI (gS G g) else if w = 2 then nI (gM G g) else if w = 3 then nI (gJ G g) else nI (if gS G g = 1 then gL G g - gT G else 0)
def rGroup (v w : Int32) (A : AS) : Op := oB (LgO 8 v ∧ (0 ≤ w ∧ w ≤ 4)) (oB (lD (aL A) = 0) (oR 0 (grV (aG A) v.toNatClampNeg w).toInt64 A) (oR 2 0 A)) (oR 1 0 A)
theorem rGroup_D (v w : Int32) (A : AS) : Det (rGroup v w A) := Det_B (fun _ => Det_B (fun _ => Det_R _ _ _) (fun _ => Det_R _ _ _)) (fun _ => Det_R _ _ _)
theorem rGroup_P {nL W nB n : Nat} {v w : Int32} {A : AS} (h : AI nL W nB n A) : Pre nL W nB n (rGroup v w A) := by
  have up := AI_up h (Nat.le_add_right n KK)
  exact Pre_B (fun g => Pre_B (fun _ => Pre_R up) (fun _ => Pre_R up)) (fun _ => Pre_R up)
theorem w04 {w : Int32} (h : 0 ≤ w ∧ w ≤ 4) : w = 0 ∨ w = 1 ∨ w = 2 ∨ w = 3 ∨ w = 4 := by
  rcases w05 ⟨h.1, Int32.le_trans h.2 (by decide)⟩ with e | e | e | e | e | e
  · exact Or.inl e
  · exact Or.inr (Or.inl e)
  · exact Or.inr (Or.inr (Or.inl e))
  · exact Or.inr (Or.inr (Or.inr (Or.inl e)))
  · exact Or.inr (Or.inr (Or.inr (Or.inr e)))
  · rw [e] at h; exact absurd h.2 (by decide)
theorem tk_sub {a b : Nat} (ha : a < 2 ^ 30) (hb : b < 2 ^ 30) : (if 0 < nI a - nI b then nI a - nI b else 0) = nI (a - b) := by
  by_cases z : b ≤ a
  · rw [pk_sub z]
    by_cases y : a - b = 0
    · rw [y]; rfl
    · rw [if_pos]
      rw [show (0 : Int32) = nI 0 from rfl, nI_ltI (by omega) (by omega)]; omega
  · rw [show a - b = 0 by omega, if_neg]
    · rfl
    · intro c
      have e : nI a - nI b = -(nI (b - a)) := by
        have : nI a = nI b - nI (b - a) := by rw [pk_sub (by omega)]; congr 1; omega
        rw [this, Int32.sub_eq_add_neg, Int32.sub_eq_add_neg, Int32.add_comm (nI b), Int32.add_assoc, Int32.add_right_neg, Int32.add_zero]
      rw [e] at c
      have c := (Int32.lt_iff_toInt_lt).mp c
      have e2 : (nI (b - a)).toInt = ((b - a : Nat) : Int) := by unfold nI; exact Int32.toInt_ofNat_of_lt (by omega)
      rw [Int32.toInt_neg, e2, show (0 : Int32).toInt = 0 by decide] at c
      have : (-((b - a : Nat) : Int)).bmod (2 ^ 32) = -((b - a : Nat) : Int) := Int.bmod_eq_of_le (by omega) (by omega)
      rw [this] at c
      omega
theorem l_group {Y : Ly} {q : Nat → Nat → Nat} {nL W nB : Nat} {M : Mm} {A : AS} {n : Nat} {v w : Int32} {Kn : Int32 → Mm → Prop} (hC : SC Y q nL W nB) (hR : SR q nL (mR M)) (hA : Rsl Y q) (hS : CS q nL W nB M A) (hI : AI nL W nB n A) (hK : KC q nL W nB (rGroup v w A) M Kn) : f_L_group Y (q 0 0) v w (q 21 0) M Kn := by
  refine ⟨sk_0_0 hC, ?_⟩
  unfold f_X11_group f_X11_group_23
  have no : ¬ (LgO 8 v ∧ (0 ≤ w ∧ w ≤ 4)) → Kn 1 M := fun g => K_no (by decide) hK (Or.inr ⟨g, rfl⟩) hS (Ec_refl _ _ _)
  refine c_eight (fun g1 => ⟨fun z => absurd z (by decide), fun _ => s_within (lo := 0) (hi := 4) rfl rfl (fun g2 => ⟨fun z => absurd z (by decide), fun _ => ?_⟩) (fun g2 => ⟨fun _ => ⟨fun z => absurd rfl z, fun _ => Or.inl ⟨rfl, no (fun z => g2 z.2)⟩⟩, fun z => absurd rfl z⟩)⟩) (fun g1 => ⟨fun _ => ⟨fun z => absurd rfl z, fun _ => Or.inl ⟨rfl, no (fun z => g1 z.1)⟩⟩, fun z => absurd rfl z⟩)
  have hX : LgO 8 v ∧ (0 ≤ w ∧ w ≤ 4) := ⟨g1, g2⟩
  have hCL := hS.2.2.2.2.2.1
  unfold f_X11_group_24
  refine ⟨fun _ => ⟨sk_0_0 hC, c_power hC hR hCL (fun g3 => ?_) (fun g3 => Or.inr ⟨rfl, K_no (by decide) hK (Or.inl ⟨hX, Or.inr ⟨g3, rfl⟩⟩) hS (Ec_refl _ _ _)⟩)⟩, fun z => absurd z (by decide)⟩
  obtain ⟨i, hi, rfl⟩ := LgO_n (by decide) g1
  have ci : (nI i).toNatClampNeg = i := nI_clamp (by omega)
  obtain ⟨t0, t1, t2, t3, t4, t5, t6⟩ := hS.2.2.2.2.1
  have gi := hI.2.2.2.1.2.2 i hi
  have gt := hI.2.2.2.1.1
  have fin : ∀ x, x = grV (aG A) i w → yK Y (q 21 0) = 102 ∧ (vp_in 0 (yN Y (q 21 0)) ∧ (∀ M2 : Mm, M2 = sJ M (q 21 0) (m1 (mJ M (q 21 0)) (0 : Int32).toNatClampNeg x.toInt64) → Kn 0 M2)) := by
    intro x hx
    refine K_st hC hA hK (Or.inl ⟨hX, Or.inl ⟨g3, ?_⟩⟩) hS (Ec_refl _ _ _)
    rw [ci, hx]; rfl
  have vin : ∀ b, yN Y b = 8 → vp_in (nI i) (yN Y b) := fun b hb => by rw [hb]; exact vp_in_nI hi (by decide)
  refine ⟨fun z => ⟨_, sr_0_0_12 hR, sk_0_26 hC, ?_⟩, fun z => ⟨_, sr_0_0_12 hR, sk_0_26 hC, _, sr_0_26_1 hR, sk_0_27 hC, vin _ (sn_0_27 hC), fin _ ?_⟩, fun z => ⟨_, sr_0_0_12 hR, sk_0_26 hC, _, sr_0_26_2 hR, sk_0_28 hC, vin _ (sn_0_28 hC), fin _ ?_⟩, fun z => ⟨_, sr_0_0_12 hR, sk_0_26 hC, _, sr_0_26_3 hR, sk_0_29 hC, vin _ (sn_0_29 hC), fin _ ?_⟩, fun z => ⟨_, sr_0_0_12 hR, sk_0_26 hC, _, sr_0_26_4 hR, sk_0_30 hC, vin _ (sn_0_30 hC), fin _ ?_⟩⟩
  · have e4 : w = 4 := by
      rcases w04 g2 with h | h | h | h | h <;> first | exact h | (rw [h] at z; exact absurd z (by decide))
    have ev : grV (aG A) i w = nI (if gS (aG A) i = 1 then gL (aG A) i - gT (aG A) else 0) := by rw [e4]; rfl
    unfold f_X7_ticksLeft f_X7_ticksLeft_29
    refine ⟨sk_0_26 hC, _, sr_0_26_2 hR, sk_0_28 hC, vin _ (sn_0_28 hC), ?_⟩
    rw [ci, t2 i hi, nIeq (x := 1) (b := 1) rfl (by have := gi.2.1; omega) (by decide)]
    refine ⟨fun y => fin _ (by rw [ev, if_neg y]; rfl), fun y => ⟨_, sr_0_26_5 hR, sk_0_31 hC, vin _ (sn_0_31 hC), fin _ ?_⟩⟩
    rw [t5 i hi, t0, tk_sub (by have := gi.2.2.2.2.2.1; omega) (by omega), ev, if_pos y]
  · rw [ci, t1 i hi, z]; rfl
  · rw [ci, t2 i hi, z]; rfl
  · rw [ci, t3 i hi, z]; rfl
  · rw [ci, t4 i hi, z]; rfl
theorem n_group {Y : Ly} {q : Nat → Nat → Nat} {nL W nB : Nat} {M : Mm} {A : AS} {n : Nat} {v w : Int32} {Kn : Int64 → Mm → Prop} (hC : SC Y q nL W nB) (hM : SM q (mR M)) (hS : MS q nL W nB M A) (hI : AI nL W nB n A) (hK : KM q nL W nB (rGroup v w A) M Kn) : f_X12_group Y (q 20 0) v w M (fun r M' => Kn r.toInt64 M') := by
  have w5 : mI M (q 20 0) 5 = lD (aL A) := hS.2.2.2.2.1.2.2.2
  have no : ¬ (LgO 8 v ∧ (0 ≤ w ∧ w ≤ 4)) → f_X12_group_22 Y (q 20 0) v w (fun r M' => Kn r.toInt64 M') M 0 := by
    intro g
    unfold f_X12_group_22
    exact ⟨sk_20_0 hC, m_goes hC (fun z => absurd rfl z) (fun z => absurd rfl z) (fun _ => ⟨fun z => absurd rfl z, fun _ => M_no hC (by decide) hK (Or.inr ⟨g, rfl⟩) hS⟩)⟩
  unfold f_X12_group f_X12_group_21
  refine m_isOne (fun g1 => ⟨fun z => absurd z (by decide), fun _ => ⟨fun g => no (fun z => Int32.not_lt.mpr z.2.1 g), fun g5 => ⟨fun g => no (fun z => Int32.not_lt.mpr z.2.2 g), fun g6 => ?_⟩⟩⟩) (fun g1 => ⟨fun _ => no (fun z => g1 z.1), fun z => absurd rfl z⟩)
  have g2 : 0 ≤ w ∧ w ≤ 4 := ⟨Int32.not_lt.mp g5, Int32.not_lt.mp g6⟩
  have hX : LgO 8 v ∧ (0 ≤ w ∧ w ≤ 4) := ⟨g1, g2⟩
  unfold f_X12_group_22 f_X12_group_97 f_X12_group_98 f_X12_group_54
  refine ⟨sk_20_0 hC, m_goes hC (fun _ g => ⟨fun _ => ?_, fun z => absurd z (by decide)⟩) (fun _ g => ⟨fun z => absurd rfl z, fun _ => M_no hC (by decide) hK (Or.inl ⟨hX, Or.inr ⟨by rw [← w5]; exact g, rfl⟩⟩) hS⟩) (fun z => absurd z (by decide))⟩
  rw [w5] at g
  have S2 := cd_MS hC hS 0
  have E2 : Ef q Pm20 M (cd q M 0) := (Ec_H (cd_Ec hC 0 rfl)).1
  obtain ⟨i, hi, rfl⟩ := LgO_n (by decide) g1
  have ci : (nI i).toNatClampNeg = i := nI_clamp (by omega)
  obtain ⟨t0, t1, t2, t3, t4, t5, t6⟩ := S2.2.2.2.1
  have gi := hI.2.2.2.1.2.2 i hi
  have gt := hI.2.2.2.1.1
  have vin : ∀ b, yN Y b = 8 → vp_in (nI i) (yN Y b) := fun b hb => by rw [hb]; exact vp_in_nI hi (by decide)
  have fin : ∀ x, x = grV (aG A) i w → Kn x.toInt64 (cd q M 0) := by
    intro x hx
    refine hK (0, _, A) _ _ (Or.inl ⟨hX, Or.inl ⟨g, rfl⟩⟩) S2 E2 (cd_0 _ _ _) (fun _ => ?_)
    rw [hx, ci]
  refine ⟨fun z2 => ⟨fun z4 => m_groupL (M := cd q M 0) hC hM S2.2.2.2.1 hI.2.2.2.1 hi (fin _ ?_), fun z4 => ⟨_, sm_34 hM, sk_20_35 hC, vin _ (sn_20_35 hC), ?_⟩⟩, fun z2 => ⟨fun z0 => ⟨_, sm_34 hM, sk_20_35 hC, vin _ (sn_20_35 hC), fin _ ?_⟩, fun z0 => ⟨_, sm_35 hM, sk_20_36 hC, vin _ (sn_20_36 hC), fin _ ?_⟩⟩⟩
  · rcases w04 g2 with h | h | h | h | h
    · rw [h] at z2; exact absurd z2 (by decide)
    · rw [h] at z2; exact absurd z2 (by decide)
    · rw [h]; rfl
    · rw [h]; rfl
    · exact absurd h z4
  · have ev : grV (aG A) i w = nI (if gS (aG A) i = 1 then gL (aG A) i - gT (aG A) else 0) := by rw [z4]; rfl
    have hs2 : mI (cd q M 0) (q 20 35) i = nI (gS (aG A) i) := t2 i hi
    rw [ci, hs2, nIeq (x := 1) (b := 1) rfl (by have := gi.2.1; omega) (by decide)]
    refine ⟨fun y => fin _ (by rw [ev, if_neg y]; rfl), fun y => ⟨_, sm_36 hM, sk_20_37 hC, vin _ (sn_20_37 hC), ?_⟩⟩
    have hl5 : mI (cd q M 0) (q 20 37) i = nI (gL (aG A) i) := t5 i hi
    have hLb : gL (aG A) i < 2 ^ 30 := by have := gi.2.2.2.2.2.1; omega
    rw [hl5, t0]
    refine pk_le (gL (aG A) i) (gT (aG A)) (fun c => fin _ (by rw [ev, if_pos y, show gL (aG A) i - gT (aG A) = 0 by omega]; rfl)) (fun c => ⟨_, sm_36 hM, sk_20_37 hC, vin _ (sn_20_37 hC), fin _ ?_⟩)
    rw [hl5, pk_sub (by omega), ev, if_pos y]
  · rcases w04 g2 with h | h | h | h | h
    · exact absurd h z0
    · rw [ci, h]; exact t2 i hi
    · rw [h] at z2; exact absurd (by decide) z2
    · rw [h] at z2; exact absurd (by decide) z2
    · rw [h] at z2; exact absurd (by decide) z2
  · rw [ci, z0]; exact t1 i hi
