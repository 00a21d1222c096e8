/-! the model's blocks and power -/
def HdR (u : Nat → Int32) (nL W nB : Nat) (F : List Nat) : Prop := ∀ b, b < nB → u b = if b < nL + 2 ∨ 0 < cv W F b then 1 else 0
def SegM (nL : Nat) (sg fi fl : Nat → Int32) (S : Nat → List Sg) : Prop := ∀ l, l ≤ nL → sg l = nI (S l).length ∧ ∀ i s, (S l)[i]? = some s → fi (60 * l + i) = nI s.1 ∧ fl (60 * l + i) = nI (sz s)
theorem m_hold {Y : Ly} {q : Nat → Nat → Nat} {nL W nB s : Nat} {F : List Nat} {M : Mm} {Kn : Mm → Prop} (hC : SC Y q nL W nB) (hM : SM q (mR M)) (hW : mI M (q 20 0) 2 = nI W) (hs : s + W ≤ nB) (hU : HdR (mI M (q 20 32)) nL W nB F)
    (h : ∀ u, HdR u nL W nB (F ++ [s]) → Kn (sI M (q 20 32) u)) : f_X12_hold Y (q 20 0) (nI s) M Kn := by
  have hd := sdims hC
  have hN := sn_20_32 hC
  unfold f_X12_hold
  refine LOOP2_inv (fun x1 M2 => ∃ k u, k ≤ W ∧ x1 = nI k ∧ M2 = sI M (q 20 32) u ∧ ∀ b, b < nB → u b = if b < nL + 2 ∨ 0 < cv W F b ∨ (s ≤ b ∧ b < s + k) then 1 else 0) (fun x1 _ => W - x1.toNatClampNeg) ?_ _ _ ⟨0, mI M (q 20 32), by omega, rfl, (sI_same _ _).symm, fun b hb => by
      rw [hU b hb]
      by_cases g : b < nL + 2 ∨ 0 < cv W F b
      · rw [if_pos g, if_pos (by omega)]
      · rw [if_neg g, if_neg (by omega)]⟩
  rintro x1 M2 again ⟨k, u, hk, rfl, rfl, hu⟩ hag
  unfold L_X12_hold_2
  rw [I_ne hC _ _ (by omega), hW, nI_cmp (by omega) (by omega)]
  refine ⟨sk_20_0 hC, fun c => ?_, fun c => ⟨_, sm_31 hM, sk_20_32 hC, ?_, bz_1, fun M9 e9 x10 e10 => ?_⟩⟩
  · refine h u (fun b hb => ?_)
    rw [hu b hb, cv_app, cv_1, show k = W from by omega]
    by_cases g : s ≤ b ∧ b < s + W
    · rw [if_pos (Or.inr (Or.inr g)), if_pos g, if_pos (by omega)]
    · rw [if_neg g, Nat.add_zero]
      by_cases g2 : b < nL + 2 ∨ 0 < cv W F b
      · rw [if_pos (by omega), if_pos (by omega)]
      · rw [if_neg (by omega), if_neg (by omega)]
  · rw [nI_add, hN]; exact vp_in_nI (by omega) (by decide)
  · rw [mI_sI_self, sI_sI, nI_add, nI_clamp (by omega)] at e9
    rw [nI_1] at e10
    subst e9 e10
    refine hag _ _ ⟨k + 1, _, by omega, rfl, rfl, fun b hb => ?_⟩ ?_
    · by_cases e : b = s + k
      · subst e
        rw [m1_self, if_pos (by omega)]
      · rw [m1_ne _ _ e, hu b hb]
        by_cases g : b < nL + 2 ∨ 0 < cv W F b ∨ (s ≤ b ∧ b < s + k)
        · rw [if_pos g, if_pos (by omega)]
        · rw [if_neg g, if_neg (by omega)]
    · rw [nI_clamp (by omega), nI_clamp (by omega)]; omega
theorem m_mark {Y : Ly} {q : Nat → Nat → Nat} {nL W nB : Nat} {S : Nat → List Sg} {M : Mm} {Kn : Mm → Prop} (hC : SC Y q nL W nB) (hM : SM q (mR M)) (hL : mI M (q 20 0) 1 = nI nL) (hW : mI M (q 20 0) 2 = nI W) (hNB : mI M (q 20 0) 3 = nI nB) (hG : Geo nL W nB S) (hS : SegM nL (mI M (q 20 29)) (mI M (q 20 30)) (mI M (q 20 31)) S)
    (h : ∀ u, HdR u nL W nB (FFs S (nL + 1)) → Kn (sI M (q 20 32) u)) : f_X12_mark Y (q 20 0) M Kn := by
  have hd := sdims hC
  have hN := sn_20_32 hC
  have no : ∀ (u : Nat → Int32) (c : Nat), c ≠ 32 → mI (sI M (q 20 32) u) (q 20 c) = mI M (q 20 c) := fun u c hc => I_ne hC _ _ (by omega)
  unfold f_X12_mark
  refine LOOP2_inv (fun x1 M2 => ∃ k u, k ≤ nB ∧ x1 = nI k ∧ M2 = sI M (q 20 32) u ∧ ∀ b, b < k → u b = if b < nL + 2 ∨ 0 < cv W [] b then 1 else 0) (fun x1 _ => nB - x1.toNatClampNeg) ?_ _ _ ⟨0, mI M (q 20 32), by omega, rfl, (sI_same _ _).symm, fun b hb => by omega⟩
  rintro x1 M2 again ⟨k, u, hk, rfl, rfl, hu⟩ hag
  unfold L_X12_mark_2
  rw [no _ _ (by decide), hNB, hL, nI_cmp (by omega) (by omega)]
  refine ⟨sk_20_0 hC, fun c => ?_, fun c => ⟨_, sm_31 hM, ?_⟩⟩
  rotate_left
  · rw [show (2 : Int32) = nI 2 from rfl, nI_add, nI_cmp (by omega) (by omega)]
    have t30 : ∀ y, bz y → (y = if k < nL + 2 ∨ 0 < cv W [] k then 1 else 0) → f_X12_mark_30 Y (nI k) (sI M (q 20 32) u) again (q 20 32) y := by
      intro y hy hyk
      refine ⟨sk_20_32 hC, by rw [hN]; exact vp_in_nI (by omega) (by decide), hy, fun M25 e25 x26 e26 => ?_⟩
      rw [mI_sI_self, sI_sI, nI_clamp (by omega)] at e25
      rw [nI_1] at e26
      subst e25 e26
      refine hag _ _ ⟨k + 1, _, by omega, rfl, rfl, fun b hb => ?_⟩ ?_
      · by_cases e : b = k
        · subst e; rw [m1_self, hyk]
        · rw [m1_ne _ _ e]; exact hu b (by omega)
      · rw [nI_clamp (by omega), nI_clamp (by omega)]; omega
    exact ⟨fun c2 => t30 _ bz_0 (by rw [if_neg (by rw [cv_nil]; omega)]), fun c2 => t30 _ bz_1 (by rw [if_pos (by omega)])⟩
  have hu0 : HdR u nL W nB (FFs S 0) := fun b hb => hu b (by omega)
  refine LOOP2_inv (fun x5 M6 => ∃ i u, i ≤ nL + 1 ∧ x5 = nI i ∧ M6 = sI M (q 20 32) u ∧ HdR u nL W nB (FFs S i)) (fun x5 _ => nL + 1 - x5.toNatClampNeg) ?_ _ _ ⟨0, u, by omega, rfl, rfl, hu0⟩
  rintro x5 M6 again2 ⟨i, u2, hi, rfl, rfl, hu2⟩ hag2
  unfold L_X12_mark_39
  rw [no _ _ (by decide), hL, nI_ltI (by omega) (by omega)]
  refine ⟨fun c2 => ?_, fun c2 => ?_⟩
  · rw [show i = nL + 1 from by omega] at hu2
    exact h u2 hu2
  have hSi := hS i (by omega)
  have hGi := hG.1 i (by omega)
  refine LOOP2_inv (fun x8 M9 => ∃ j u, j ≤ (S i).length ∧ x8 = nI j ∧ M9 = sI M (q 20 32) u ∧ HdR u nL W nB (FFs S i ++ ((S i).take j).map (fun s => s.1))) (fun x8 _ => (S i).length - x8.toNatClampNeg) ?_ _ _ ⟨0, u2, by omega, rfl, rfl, by simpa using hu2⟩
  rintro x8 M9 again3 ⟨j, u3, hj, rfl, rfl, hu3⟩ hag3
  unfold L_X12_mark_49
  refine ⟨_, sm_28 hM, sk_20_29 hC, by rw [sn_20_29 hC]; exact vp_in_nI (by omega) (by decide), ?_⟩
  rw [no _ _ (by decide), nI_clamp (by omega), hSi.1, nI_cmp (by omega) (by omega)]
  refine ⟨fun c3 x14 e14 => ?_, fun c3 => ⟨_, sm_29 hM, sk_20_30 hC, ?_, ?_⟩⟩
  · rw [nI_1] at e14
    subst e14
    refine hag2 _ _ ⟨i + 1, u3, by omega, rfl, rfl, ?_⟩ ?_
    · rw [List.take_of_length_le c3] at hu3
      exact hu3
    · rw [nI_clamp (by omega), nI_clamp (by omega)]; omega
  · rw [show (60 : Int32) = nI 60 from rfl, pk_mul, nI_add, sn_20_30 hC]; exact vp_in_nI (by omega) (by decide)
  · obtain ⟨g, hg⟩ := lt_some (show j < (S i).length by omega)
    have hgm : g ∈ S i := List.mem_of_getElem? hg
    rw [show (60 : Int32) = nI 60 from rfl, pk_mul, nI_add, nI_clamp (by omega), no _ _ (by decide), (hSi.2 j g hg).1]
    refine m_hold hC hM (by rw [no _ _ (by decide)]; exact hW) (hGi.2 g hgm).2.1 (by rw [mI_sI_self]; exact hu3) ?_
    intro u4 hu4 x19 e19
    rw [nI_1] at e19
    subst e19
    rw [sI_sI]
    refine hag3 _ _ ⟨j + 1, u4, by omega, rfl, rfl, ?_⟩ ?_
    · rw [take_s hg, List.map_append, ← List.append_assoc]
      exact hu4
    · rw [nI_clamp (by omega), nI_clamp (by omega)]; omega
theorem m_place {Y : Ly} {q : Nat → Nat → Nat} {nL W nB : Nat} {F : List Nat} {M : Mm} {Kn : Int32 → Mm → Prop} (hC : SC Y q nL W nB) (hM : SM q (mR M)) (hL : mI M (q 20 0) 1 = nI nL) (hW : mI M (q 20 0) 2 = nI W) (hNB : mI M (q 20 0) 3 = nI nB) (hU : HdR (mI M (q 20 32)) nL W nB F)
    (h : ∀ b, Lst (nL + 2) W nB F b → Kn (nI b) M) (hn : NoR (nL + 2) W nB F → Kn (-1) M) : f_X12_placeOf Y (q 20 0) M Kn := by
  have hd := sdims hC
  have hN := sn_20_32 hC
  unfold f_X12_placeOf
  refine ⟨sk_20_0 hC, fun x2 e2 => ?_⟩
  rw [hL, show (2 : Int32) = nI 2 from rfl, nI_add] at e2
  subst e2
  refine LOOP1_inv (fun x3 => ∃ b, x3 = nI b ∧ nL + 2 ≤ b ∧ b ≤ nB + 1 ∧ (∀ b', nL + 2 ≤ b' → b' < b → ¬ free W F b')) (fun x3 => nB + 1 - x3.toNatClampNeg) ?_ _ ⟨nL + 2, rfl, by omega, by omega, fun b' h1 h2 => by omega⟩
  rintro x3 again ⟨b, rfl, hlo, hhi, hA⟩ hag
  unfold L_X12_placeOf_7
  rw [hNB, hW, nI_add, nI_ltI (by omega) (by omega)]
  refine ⟨fun c => hn (fun b' h1 h2 => hA b' h1 (by omega)), fun c => ?_⟩
  refine LOOP2_inv (fun x5 x6 => ∃ k, b ≤ k ∧ k ≤ b + W ∧ x6 = nI k ∧ bz x5 ∧ (x5 = 1 ↔ ∀ j, b ≤ j → j < k → cv W F j = 0)) (fun _ x6 => b + W - x6.toNatClampNeg) ?_ _ _ ⟨b, by omega, by omega, rfl, bz_1, by simp; intro j h1 h2; omega⟩
  rintro x5 x6 again2 ⟨k, hk1, hk2, rfl, h5, hall⟩ hag2
  unfold L_X12_placeOf_24
  rw [hW, nI_add, nI_cmp (by omega) (by omega)]
  have t52 : ∀ y10, bz y10 → (y10 = 1 ↔ ∀ j, b ≤ j → j < k + 1 → cv W F j = 0) → k < b + W → f_X12_placeOf_52 Y (nI k) again2 y10 := by
    intro y10 hy h10 hlt
    unfold f_X12_placeOf_52
    intro x11 e11
    rw [nI_1] at e11
    subst e11
    refine hag2 _ _ ⟨k + 1, by omega, by omega, rfl, hy, h10⟩ ?_
    rw [nI_clamp (by omega), nI_clamp (by omega)]; omega
  refine ⟨fun c2 => ⟨fun c3 x9 e9 => ?_, fun c3 => ?_⟩, fun c2 => ⟨fun c3 => ?_, fun c3 => ⟨_, sm_31 hM, sk_20_32 hC, by rw [hN]; exact vp_in_nI (by omega) (by decide), ?_⟩⟩⟩
  · rw [nI_1] at e9
    subst e9
    refine hag _ ⟨b + 1, rfl, by omega, by omega, fun b' g1 g2 hf => ?_⟩ ?_
    · by_cases e : b' = b
      · subst e
        have : x5 = 1 := hall.mpr (fun j j1 j2 => hf j j1 (by omega))
        rw [this] at c3; exact absurd c3 (by decide)
      · exact hA b' g1 (by omega) hf
    · rw [nI_clamp (by omega), nI_clamp (by omega)]; omega
  · exact h b ⟨hlo, by omega, fun j j1 j2 => hall.mp (bz_ne0 h5 c3) j j1 (by omega), hA⟩
  · unfold f_X12_placeOf_51
    refine t52 0 bz_0 ⟨fun z => absurd z (by decide), fun z => ?_⟩ (by omega)
    have : x5 = 1 := hall.mpr (fun j j1 j2 => z j j1 (by omega))
    rw [c3] at this; exact this
  · rw [nI_clamp (by omega), hU k (by omega)]
    have h51 := hall.mp (bz_ne0 h5 c3)
    unfold f_X12_placeOf_51
    refine ⟨fun c4 => t52 0 bz_0 ⟨fun z => absurd z (by decide), fun z => ?_⟩ (by omega), fun c4 => t52 1 bz_1 ⟨fun _ j j1 j2 => ?_, fun _ => rfl⟩ (by omega)⟩
    · exfalso
      have := z k (by omega) (by omega)
      exact c4 (by rw [if_neg (by omega)])
    · by_cases e : j = k
      · subst e
        apply Classical.byContradiction
        intro hc
        rw [if_pos (Or.inr (by omega))] at c4
        exact absurd c4 (by decide)
      · exact h51 j j1 (by omega)
theorem m_spend {Y : Ly} {v n : Nat} {M : Mm} {Kn : Int32 → Mm → Prop} (hkv : yK Y v = 12) (hn : n < 2 ^ 31) (hlf : LfOK (mI M v 7))
    (h : ∀ l' ad dn full, SpR (mI M v 7) n l' ad dn full → ∀ r, bz r → (r = 1 ↔ full) → Kn r (sI M v (m1 (m1 (m1 (mI M v) 6 (mI M v 6 + nI ad)) 7 l') 5 dn))) : f_X12_spend Y v (nI n) M Kn := by
  unfold f_X12_spend f_X12_spend_19
  have t61 : ∀ (y2 y5 : Int32) (ad : Nat) (full : Prop), ad < 2 ^ 31 → bz y2 → SpR (mI M v 7) n (mI M v 7 - y5) ad y2 full → (full ↔ ad = n) → f_X12_spend_61 Y v (nI n) Kn y2 (nI ad) (sI M v (m1 (mI M v) 6 (mI M v 6 + nI ad))) y5 := by
    intro y2 y5 ad full had hy2 hsp hf
    unfold f_X12_spend_61 f_X12_spend_80
    intro M6 e6
    rw [mI_sI_self, sI_sI, show m1 (mI M v) 6 (mI M v 6 + nI ad) 7 = mI M v 7 from by simp [m1]] at e6
    subst e6
    refine ⟨hy2, fun M8 e8 => ?_⟩
    rw [mI_sI_self, sI_sI] at e8
    subst e8
    rw [nI_eq had hn]
    refine ⟨fun c => ⟨bz_0, h _ ad y2 full hsp 0 bz_0 ⟨fun z => absurd z (by decide), fun z => absurd (hf.mp z) c⟩⟩, fun c => ⟨bz_1, h _ ad y2 full hsp 1 bz_1 ⟨fun _ => hf.mpr c, fun _ => rfl⟩⟩⟩
  have t33 : ∀ (y2 : Int32) (ad : Nat) (full : Prop), ad < 2 ^ 31 → bz y2 → (0 ≤ mI M v 7 → SpR (mI M v 7) n (mI M v 7 - nI ad) ad y2 full) → (¬ 0 ≤ mI M v 7 → SpR (mI M v 7) n (mI M v 7 - 0) ad y2 full) → (full ↔ ad = n) → f_X12_spend_33 Y v (nI n) M Kn y2 (nI ad) := by
    intro y2 ad full had hy2 hsp hsp2 hf
    unfold f_X12_spend_33
    intro M4 e4
    subst e4
    rw [mI_sI_self, show m1 (mI M v) 6 (mI M v 6 + nI ad) 7 = mI M v 7 from by simp [m1]]
    exact ⟨fun c => t61 y2 _ ad full had hy2 (hsp c) hf, fun c => t61 y2 _ ad full had hy2 (hsp2 c) hf⟩
  refine ⟨hkv, fun c => ?_, fun c => ⟨fun c2 => ?_, fun c2 => ?_⟩⟩
  · rcases hlf with e | ⟨L, hL, hL2, e⟩
    · unfold f_X12_spend_20
      refine ⟨fun _ => t33 0 n True hn bz_0 (fun z => ?_) (fun _ => ?_) (by simp), fun z => absurd rfl z⟩
      · rw [e] at z; exact absurd z (by decide)
      · rw [e]; exact Or.inl ⟨rfl, by decide, rfl, rfl, trivial⟩
    · rw [e] at c; exact absurd c (nI_pos hL2)
  · rcases hlf with e | ⟨L, hL, hL2, e⟩
    · rw [e] at c; exact absurd (by decide) c
    · rw [e, nI_ltI hn hL2] at c2
      unfold f_X12_spend_20
      refine ⟨fun _ => t33 0 n True hn bz_0 (fun _ => ?_) (fun z => ?_) (by simp), fun z => absurd rfl z⟩
      · rw [e, pk_sub (by omega)]; exact Or.inr (Or.inl ⟨L, c2, hL2, rfl, rfl, rfl, rfl, trivial⟩)
      · rw [e] at z; exact absurd (nI_pos' hL2) z
  · rcases hlf with e | ⟨L, hL, hL2, e⟩
    · rw [e] at c; exact absurd (by decide) c
    · rw [e, nI_ltI hn hL2] at c2
      unfold f_X12_spend_20
      refine ⟨fun z => absurd z (by decide), fun _ => ?_⟩
      rw [e]
      refine t33 1 L (L = n) hL2 bz_1 (fun _ => ?_) (fun z => ?_) Iff.rfl
      · rw [e, pk_sub (Nat.le_refl _), Nat.sub_self]; exact Or.inr (Or.inr ⟨L, hL, by omega, hL2, rfl, rfl, rfl, rfl, Iff.rfl⟩)
      · rw [e] at z; exact absurd (nI_pos' hL2) z
theorem m_touched {Y : Ly} {x n : Nat} {M : Mm} {Kn : Int32 → Mm → Prop} (hx : x + n < 2 ^ 30) (h : Kn (nI (tch x n)) M) : f_X12_touched Y (nI x) (nI n) M Kn := by
  unfold f_X12_touched f_X12_touched_25
  have e0 : nI n = 0 ↔ n = 0 := by rw [show (0 : Int32) = nI 0 from rfl, nI_eq (by omega) (by omega)]
  rw [e0]
  refine ⟨fun c => ?_, fun c => ?_⟩
  · rw [nI_add, show (1 : Int32) = nI 1 from rfl, pk_sub (by omega), show (1024 : Int32) = nI 1024 from rfl, pk_div (by omega) (by decide) (by decide), pk_div (by omega) (by decide) (by decide), pk_sub (by omega), nI_add]
    unfold tch at h
    rw [if_neg c] at h
    exact h
  · unfold tch at h
    rw [if_pos c] at h
    exact h
