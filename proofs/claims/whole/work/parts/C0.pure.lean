/-! known -/
def knV (b : Bt) (w : Int32) : Int64 := if w = 1 then (epB b).toInt64 else if w = 2 then (b_next (fB b) 0).toInt64 else baB b
def rKnown (nL : Nat) (v : Int32) (p : Int64) (w : Int32) (A : AS) : Op := oB (LgO (nL + 1) v ∧ 0 ≤ p ∧ (0 ≤ w ∧ w ≤ 3)) (oB (lD (aL A) = 0) (oB (w = 0) (oE (IsC (Kb (lS (aL A) v.toNatClampNeg) p)) (fun k => oR 0 (nI k).toInt64 A)) (oB (Kb (lS (aL A) v.toNatClampNeg) p 0 = none) (oR 0 (-1) A) (oE (fun b => Kb (lS (aL A) v.toNatClampNeg) p 0 = some b) (fun b => oR 0 (knV b w) A)))) (oR 2 0 A)) (oR 1 0 A)
theorem some_fun {α : Type} {o : Option α} (x y : α) (h : o = some x) (h' : o = some y) : x = y := by
  rw [h] at h'; cases h'; rfl
theorem rKnown_D (nL : Nat) (v : Int32) (p : Int64) (w : Int32) (A : AS) : Det (rKnown nL v p w A) :=
  Det_B (fun _ => Det_B (fun _ => Det_B (fun _ => Det_E (fun x y h h' => IsC_fun h h') (fun _ _ => Det_R _ _ _)) (fun _ => Det_B (fun _ => Det_R _ _ _) (fun _ => Det_E some_fun (fun _ _ => Det_R _ _ _)))) (fun _ => Det_R _ _ _)) (fun _ => Det_R _ _ _)
theorem rKnown_P {nL W nB n : Nat} {v : Int32} {p : Int64} {w : Int32} {A : AS} (h : AI nL W nB n A) : Pre nL W nB n (rKnown nL v p w A) := by
  have up := AI_up h (Nat.le_add_right n KK)
  exact Pre_B (fun _ => Pre_B (fun _ => Pre_B (fun _ => Pre_E (fun _ _ => Pre_R up)) (fun _ => Pre_B (fun _ => Pre_R up) (fun _ => Pre_E (fun _ _ => Pre_R up)))) (fun _ => Pre_R up)) (fun _ => Pre_R up)
theorem l_known {Y : Ly} {q : Nat → Nat → Nat} {nL W nB : Nat} {M : Mm} {A : AS} {n : Nat} {v : Int32} {p : Int64} {w : Int32} {Kn : Int32 → Mm → Prop} (hC : SC Y q nL W nB) (hR : SR q nL (mR M)) (hA : Rsl Y q) (hS : CS q nL W nB M A) (hI : AI nL W nB n A) (hK : KC q nL W nB (rKnown nL v p w A) M Kn) : f_L_known Y (q 0 0) v p w (q 21 0) M Kn := by
  have hd := sdims hC
  refine ⟨sk_0_0 hC, ?_⟩
  unfold f_X11_known f_X11_known_31
  have no : ¬ (LgO (nL + 1) v ∧ 0 ≤ p ∧ (0 ≤ w ∧ w ≤ 3)) → Kn 1 M := fun g => K_no (by decide) hK (Or.inr ⟨g, rfl⟩) hS (Ec_refl _ _ _)
  refine ⟨sk_0_0 hC, c_isLog hC hS.1 (fun g1 => ⟨fun z => absurd z (by decide), fun _ => ⟨fun g => ⟨fun z => absurd rfl z, fun _ => Or.inl ⟨rfl, no (fun z => Int64.not_lt.mpr z.2.1 g)⟩⟩, fun g2 => s_within (lo := 0) (hi := 3) rfl rfl (fun g3 => ⟨fun z => absurd z (by decide), fun _ => ?_⟩) (fun g3 => ⟨fun _ => ⟨fun z => absurd rfl z, fun _ => Or.inl ⟨rfl, no (fun z => g3 z.2.2)⟩⟩, fun z => absurd rfl z⟩)⟩⟩) (fun g1 => ⟨fun _ => ⟨fun z => absurd rfl z, fun _ => Or.inl ⟨rfl, no (fun z => g1 z.1)⟩⟩, fun z => absurd rfl z⟩)⟩
  have hX : LgO (nL + 1) v ∧ 0 ≤ p ∧ (0 ≤ w ∧ w ≤ 3) := ⟨g1, Int64.not_lt.mp g2, g3⟩
  have hp : ¬ p = -1 := fun e => by rw [e] at g2; exact absurd (by decide) g2
  have hCL := hS.2.2.2.2.2.1
  unfold f_X11_known_32
  refine ⟨fun _ => ?_, fun z => absurd z (by decide)⟩
  refine c_power hC hR hCL (fun g4 => ?_) (fun g4 => Or.inr ⟨rfl, K_no (by decide) hK (Or.inl ⟨hX, Or.inr ⟨g4, rfl⟩⟩) hS (Ec_refl _ _ _)⟩)
  have hG := hI.2.2.2.2.1
  have hLC := hCL.2.2.2.2.2 g4
  have hD := hCL.2.1
  obtain ⟨l, hl, rfl⟩ := LgO_n (by omega) g1
  have cl : (nI l).toNatClampNeg = l := nI_clamp (by omega)
  have hl : l ≤ nL := by omega
  have k11 := sk_0_11 hC
  have n11 := sn_0_11 hC
  refine ⟨_, sr_0_0_10 hR, sk_0_13 hC, _, sr_0_13_1 hR, sk_0_14 hC, by rw [sn_0_14 hC]; exact vp_in_nI (by omega) (by omega), _, by rw [cl]; exact sr_0_14 hR l hl, fun z => ⟨_, sr_0_0_10 hR, sk_0_13 hC, ?_⟩, fun z => ⟨_, sr_0_0_10 hR, sk_0_13 hC, ?_⟩⟩
  · refine c_knownAt (r := 0) hC hR hl hG hLC hD (by decide) ?_
    rw [if_neg hp]
    rcases c_kn (Y := Y) (q := q) (M := M) (p := p) hG hD hl hd.2.2.2.2.2 0 with ⟨e1, e2⟩ | ⟨a0, b0, e1, e2, e3, e4, e5, e6⟩
    · rw [e2]
      exact ⟨fun c => absurd rfl c, fun _ => K_st hC hA hK (Or.inl ⟨hX, Or.inl ⟨g4, Or.inr ⟨z, Or.inl ⟨by rw [cl]; exact e1, rfl⟩⟩⟩⟩) hS (Ec_refl _ _ _)⟩
    rw [e2]
    have fin : ∀ x, x = knV b0 w → yK Y (q 21 0) = 102 ∧ (vp_in 0 (yN Y (q 21 0)) ∧ (∀ M2 : Mm, M2 = sJ M (q 21 0) (m1 (mJ M (q 21 0)) (0 : Int32).toNatClampNeg x) → Kn 0 M2)) := by
      intro x hx
      refine K_st hC hA hK (Or.inl ⟨hX, Or.inl ⟨g4, Or.inr ⟨z, Or.inr ⟨by rw [cl, e1]; exact (fun z => by cases z), b0, by rw [cl]; exact e1, ?_⟩⟩⟩⟩) hS (Ec_refl _ _ _)
      rw [hx]; rfl
    refine ⟨fun _ => ⟨fun w1 => ?_, fun w2 => ?_, fun w1 w2 => ?_⟩, fun c => absurd c (nI_nm1 e6)⟩
    · refine ⟨_, sr_0_0_6 hR, sk_0_10 hC, _, sr_0_10_0 hR, s_epochOf (a := a0) k11 (by omega) (by omega) (fin _ ?_)⟩
      unfold knV; rw [if_pos w1]
      rw [show b_epochOf (mI M (q 0 11)) a0 = epB b0 from by unfold b_epochOf epB; rw [beS_fB e3 (by omega)]]
    · refine ⟨_, sr_0_0_6 hR, sk_0_10 hC, _, sr_0_10_0 hR, s_nextSequenceOf (a := a0) k11 (by omega) (by omega) (fin _ ?_)⟩
      unfold knV; rw [if_neg (by rw [w2]; decide), if_pos w2]
      unfold b_next b_sequenceOf b_lastOf
      rw [beS_fB e3 (by omega), beS_fB e3 (by omega), Nat.zero_add, Nat.zero_add]
    · refine ⟨_, sr_0_0_6 hR, sk_0_10 hC, _, sr_0_10_0 hR, s_baseOf (a := a0) k11 (by omega) (by omega) (fin _ ?_)⟩
      unfold knV; rw [if_neg w1, if_neg w2]
      exact ba_fB e3 e5
  · refine c_knownCount hC hR hl hG hLC hD hp (fun k hk => ?_)
    exact K_st hC hA hK (Or.inl ⟨hX, Or.inl ⟨g4, Or.inl ⟨z, k, by rw [cl]; exact hk, rfl⟩⟩⟩) hS (Ec_refl _ _ _)
theorem n_known {Y : Ly} {q : Nat → Nat → Nat} {nL W nB : Nat} {M : Mm} {A : AS} {n : Nat} {v : Int32} {p : Int64} {w : Int32} {Kn : Int64 → Mm → Prop} (hC : SC Y q nL W nB) (hM : SM q (mR M)) (hS : MS q nL W nB M A) (hI : AI nL W nB n A) (hK : KM q nL W nB (rKnown nL v p w A) M Kn) : f_X12_known Y (q 20 0) v p w M Kn := by
  have hd := sdims hC
  have no : ¬ (LgO (nL + 1) v ∧ 0 ≤ p ∧ (0 ≤ w ∧ w ≤ 3)) → f_X12_known_35 Y (q 20 0) v p w M Kn 0 := by
    intro g
    unfold f_X12_known_35
    exact ⟨sk_20_0 hC, m_goes hC (fun z => absurd rfl z) (fun z => absurd rfl z) (fun _ => ⟨fun z => absurd rfl z, fun _ => M_no hC (by decide) hK (Or.inr ⟨g, rfl⟩) hS⟩)⟩
  have w1 : mI M (q 20 0) 1 = nI nL := by obtain ⟨B, hp, ht, hLM⟩ := hS.2.2.2.2.1.1; exact hLM.1.1
  have w5 : mI M (q 20 0) 5 = lD (aL A) := hS.2.2.2.2.1.2.2.2
  unfold f_X12_known f_X12_known_34
  refine ⟨fun g => no (fun z => Int32.not_lt.mpr z.1.1 g), fun g0 => ⟨sk_20_0 hC, fun g => no (fun z => (m_isLg w1 (by omega) g0).mpr z.1 g), fun g1 => ⟨fun g => no (fun z => Int64.not_lt.mpr z.2.1 g), fun g2 => ⟨fun g => no (fun z => Int32.not_lt.mpr z.2.2.1 g), fun g3 => ⟨fun g => no (fun z => Int32.not_lt.mpr z.2.2.2 g), fun g4 => ?_⟩⟩⟩⟩⟩
  have gl := (m_isLg w1 (by omega) g0).mp g1
  have hX : LgO (nL + 1) v ∧ 0 ≤ p ∧ (0 ≤ w ∧ w ≤ 3) := ⟨gl, Int64.not_lt.mp g2, Int32.not_lt.mp g3, Int32.not_lt.mp g4⟩
  unfold f_X12_known_35
  refine ⟨sk_20_0 hC, m_goes hC (fun _ g => ⟨fun _ => ?_, fun z => absurd z (by decide)⟩) (fun _ g => ⟨fun z => absurd rfl z, fun _ => M_no hC (by decide) hK (Or.inl ⟨hX, Or.inr ⟨by rw [← w5]; exact g, rfl⟩⟩) hS⟩) (fun z => absurd z (by decide))⟩
  rw [w5] at g
  have S2 := cd_MS hC hS 0
  have E2 : Ef q Pm20 M (cd q M 0) := (Ec_H (cd_Ec hC 0 rfl)).1
  obtain ⟨l, hl, rfl⟩ := LgO_n (by omega) gl
  have cl : (nI l).toNatClampNeg = l := nI_clamp (by omega)
  have hl : l ≤ nL := by omega
  obtain ⟨N, hN⟩ : ∃ N, N = cd q M 0 := ⟨_, rfl⟩
  rw [← hN] at S2 E2 ⊢
  have z0 : mI N (q 20 0) 0 = 0 := by rw [hN, cd_0]
  have hMN : SM q (mR N) := by rw [hN]; exact hM
  obtain ⟨B, hp, ht, hLM⟩ := S2.2.2.2.2.1.1
  have hG := hI.2.2.2.2.1
  have hOK := hI.2.2.2.2.2.1
  have hk := hLM.2.2.2.2.2.2.2.2
  have tail : ∀ k, IsC (Kb (lS (aL A) l) p) k → f_X12_known_69 Y (q 20 0) (nI l) p w Kn (nI k) N := by
    intro k hck
    unfold f_X12_known_69 f_X12_known_88 f_X12_known_102 f_X12_known_150
    refine m_knownOne (r := 0) hC hMN hG hLM (by decide) hl ?_
    rw [if_neg g2]
    have c0 : w = 0 → Kn (nI k).toInt64 N := fun z => hK (0, _, A) _ _ (Or.inl ⟨hX, Or.inl ⟨g, Or.inl ⟨z, k, by rw [cl]; exact hck, rfl⟩⟩⟩) S2 E2 z0 (fun _ => rfl)
    refine ⟨fun z => ⟨fun z1 => absurd z z1, fun _ => c0 z⟩, fun z => ?_⟩
    rcases m_kn hG hd.2.2.2.2.2 hk hl p 0 with ⟨e1, e2⟩ | ⟨i0, x0, e1, e2, e3, e4, e5⟩
    · rw [e2]
      refine ⟨fun c => absurd c (by decide), fun _ => ⟨fun _ => ?_, fun z1 => absurd z1 z⟩⟩
      exact hK (0, -1, A) _ _ (Or.inl ⟨hX, Or.inl ⟨g, Or.inr ⟨z, Or.inl ⟨by rw [cl]; exact e1, rfl⟩⟩⟩⟩) S2 E2 z0 (fun _ => rfl)
    · rw [e4]
      have fin : ∀ x, x = knV (mB x0) w → Kn x N := fun x hx => hK (0, knV (mB x0) w, A) _ _ (Or.inl ⟨hX, Or.inl ⟨g, Or.inr ⟨z, Or.inr ⟨by rw [cl, e2]; exact (fun z => by cases z), mB x0, by rw [cl]; exact e2, rfl⟩⟩⟩⟩) S2 E2 z0 (fun _ => hx)
      refine ⟨fun _ => ⟨fun y1 => ⟨fun y2 => m_ba hC hMN hG hLM e1 (fin _ ?_), fun y2 => m_sq hC hMN hG hLM e1 (m_la hC hMN hG hLM e1 ?_)⟩, fun y1 => m_ep hC hMN hG hLM e1 (fin _ ?_)⟩, fun c => absurd (nI_ge0 (by omega)) c⟩
      · unfold knV; rw [if_neg y1, if_neg y2]
      · unfold f_X12_after
        refine fin _ ?_
        unfold knV
        rw [if_neg y1, if_pos y2]
        have okB : BatOK (mB x0) := m_bok hOK hLM e1
        obtain ⟨-, -, -, -, -, -, o7, la, rs, o8, o9, -⟩ := okB
        have hpr : prB (mB x0) = p := (Kb_mem e2).2
        rcases o7 with o7 | ⟨-, s, hs, o7⟩
        · rw [hpr] at o7; rw [o7] at g2; exact absurd (by decide) g2
        · rw [o7, o9, ← next_after hs o8]
          show ((nI s + nI la + 1) &&& 2147483647).toInt64 = ((sqB (mB x0) + laB (mB x0) + 1) &&& 2147483647).toInt64
          rw [o7, o9]
      · unfold knV; rw [if_pos y1]
  refine LOOP2_inv (fun x6 M7 => ∃ k, k ≤ 5 ∧ x6 = nI k ∧ M7 = N ∧ ∀ j, j < k → Kb (lS (aL A) l) p j ≠ none) (fun x6 _ => 5 - x6.toNatClampNeg) ?_ _ _ ⟨0, by omega, rfl, rfl, fun j hj => by omega⟩
  rintro x6 M7 again ⟨k, hk5, rfl, rfl, hall⟩ hag
  unfold L_X12_known_46
  refine pk_le 5 k (fun c5 => ?_) (fun c5 => ?_)
  · have : k = 5 := by omega
    exact tail k ⟨hk5, hall, fun z => by omega⟩
  · refine m_knownOne hC hMN hG hLM (by omega) hl ?_
    rw [if_neg g2]
    rcases m_kn hG hd.2.2.2.2.2 hk hl p k with ⟨e1, e2⟩ | ⟨i0, x0, e1, e2, e3, e4, e5⟩
    · rw [e2]
      exact ⟨fun _ => tail k ⟨hk5, hall, fun _ => e1⟩, fun c => absurd (by decide) c⟩
    · rw [e4]
      refine ⟨fun c => absurd c (nI_pos (by omega)), fun _ x33 e33 => ?_⟩
      rw [nI_1] at e33
      subst e33
      refine hag _ _ ⟨k + 1, by omega, rfl, rfl, fun j hj => ?_⟩ (by rw [nI_clamp (by omega), nI_clamp (by omega)]; omega)
      by_cases y : j = k
      · rw [y, e2]; exact (fun z => by cases z)
      · exact hall j (by omega)
