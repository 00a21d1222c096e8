/-! the audit -/
theorem pbs_ix : ∀ {bs : List Bt} {a k : Nat} {b : Bt}, bs[k]? = some b → (pbs a bs)[k]? = some (a + tot (bs.take k), b)
  | [], _, _, _, h => by simp at h
  | c :: bs, a, 0, b, h => by
    simp only [List.getElem?_cons_zero, Option.some.injEq] at h
    subst h
    rfl
  | c :: bs, a, k + 1, b, h => by
    simp only [List.getElem?_cons_succ] at h
    simp only [pbs, List.getElem?_cons_succ, pbs_ix h, List.take_succ_cons]
    congr 2
    simp only [tot, List.map_cons, List.sum_cons]; omega
theorem PS_ix {S : List Sg} {s k : Nat} {g : Sg} {b : Bt} (hs : S[s]? = some g) (hk : g.2[k]? = some b) : (PS S)[(PS (S.take s)).length + k]? = some (g.1 * 1024 + tot (g.2.take k), b) := by
  have e : PS S = PS (S.take s) ++ (pbs (g.1 * 1024) g.2 ++ PS (S.drop (s + 1))) := by
    have : S = S.take s ++ (g :: S.drop (s + 1)) := by rw [← drop_s hs, List.take_append_drop]
    conv => lhs; rw [this]
    rw [PS_app]; rfl
  rw [e, List.getElem?_append_right (by omega), Nat.add_sub_cancel_left, List.getElem?_append_left (by rw [pbs_len]; exact some_lt hk)]
  exact pbs_ix hk
set_option maxRecDepth 20000 in
theorem c_headF {Y : Ly} {q : Nat → Nat → Nat} {nL W nB : Nat} {S : Nat → List Sg} {st en : Nat → Int64} {M : Mm} (hC : SC Y q nL W nB) (hR : SR q nL (mR M)) (hG : Geo nL W nB S) (hLC : LogC q nL W nB M st en S) (hD : DkA nL (mI M (q 0 11)) st en S) {l : Nat} {Kn : Int32 → Mm → Prop} (hl : l ≤ nL) (h : ∀ M', Fr q (F1 16) M M' → mJ M' = mJ M → Kn 0 M') : f_X9_headFaults Y (q 0 13) (q (l + 1) 0) M Kn := by
  have hd := sdims hC
  have hGl := hG.1 l hl
  obtain ⟨a1, a2, a3, a4⟩ := hLC.2.2 l hl
  have hW : W * 1024 ≤ 16 * 1024 := Nat.mul_le_mul_right _ hd.2.2.2.1
  unfold f_X9_headFaults
  refine ⟨sk_0_13 hC, c_fillHead hC hR hl a2 hGl.1 (fun s hs => by have := hGl.2 s hs; exact ⟨by omega, by omega⟩) (fun F hF => ⟨sk_t_0 hC l hl, ?_⟩)⟩
  rw [a3, a4] at hF
  have e0 : mI (sI M (q 0 16) F) (q (l + 1) 0) 0 = nI (l + 1) := by rw [I_ne hC _ _ (by omega)]; exact a1
  rw [e0]
  intro x4 e4
  rw [show (1024 : Int32) = nI 1024 from rfl, pk_mul] at e4
  subst e4
  have hlen := hdL_len (st l) (en l) hGl.1
  have hdk := (hD l hl).1
  have n11 := sn_0_11 hC
  have hnb : (l + 1) * 1024 + 500 ≤ nB * 1024 := by
    have h1 : (l + 2) * 1024 ≤ nB * 1024 := Nat.mul_le_mul_right 1024 (by omega)
    have h2 : (l + 2) * 1024 = (l + 1) * 1024 + 1024 := Nat.succ_mul (l + 1) 1024
    exact Nat.le_trans (Nat.add_le_add_left (show 500 ≤ 1024 by decide) _) (by rw [← h2]; exact h1)
  have hb31 : (l + 1) * 1024 ≤ 9216 := Nat.mul_le_mul_right 1024 (show l + 1 ≤ 9 by omega)
  refine LOOP1_inv (fun x5 => ∃ j, j ≤ 500 ∧ x5 = nI j) (fun x5 => 500 - x5.toNatClampNeg) ?_ _ ⟨0, by omega, rfl⟩
  rintro x5 again ⟨j, hj, rfl⟩ hag
  unfold L_X9_headFaults_16
  refine ⟨_, sr_0_13_5 hR, sk_0_16 hC, ?_⟩
  rw [sn_0_16 hC, nI_cmp (by decide) (by omega)]
  refine ⟨fun _ => h _ (Fr_sI _ _ _ _ ⟨rfl, rfl⟩) rfl, fun c => ⟨_, sr_0_13_5 hR, sk_0_16 hC, by rw [sn_0_16 hC]; exact vp_in_nI (by omega) (by decide), _, sr_0_13_0 hR, sk_0_10 hC, _, sr_0_10_0 hR, sk_0_11 hC, ?_⟩⟩
  generalize (l + 1) * 1024 = P at hnb hb31 hdk
  rw [nI_add, n11]
  have hk1 : mI (sI M (q 0 16) F) (q 0 16) (nI j).toNatClampNeg = (hdL (st l) (en l) (S l)).getD j 0 := by
    rw [mI_sI_self, nI_clamp (by omega)]
    have := Lie_get hF (j := j) (by rw [hlen]; omega)
    rwa [Nat.zero_add] at this
  have hk2 : mI (sI M (q 0 16) F) (q 0 11) (nI (P + j)).toNatClampNeg = (hdL (st l) (en l) (S l)).getD j 0 := by
    rw [I_ne hC _ _ (by omega), nI_clamp (by omega)]
    exact Lie_get hdk (by rw [hlen]; omega)
  refine ⟨vp_in_nI (by omega) (by omega), fun _ x18 e18 => ?_, fun z => absurd (hk1.trans hk2.symm) z⟩
  rw [nI_1] at e18
  subst e18
  refine hag _ ⟨j + 1, by omega, rfl⟩ ?_
  rw [nI_clamp (by omega), nI_clamp (by omega)]; omega
set_option maxRecDepth 20000 in
theorem c_batchF {Y : Ly} {q : Nat → Nat → Nat} {nL W nB : Nat} {S : Nat → List Sg} {st en : Nat → Int64} {M : Mm} (hC : SC Y q nL W nB) (hR : SR q nL (mR M)) (hG : Geo nL W nB S) (hLC : LogC q nL W nB M st en S) (hD : DkA nL (mI M (q 0 11)) st en S) (hOK : LogOK nL S) {l s0 e0 : Nat} {Kn : Int32 → Mm → Prop} (hl : l ≤ nL) (hst : st l = lN s0) (hen : en l = lN e0) (he0 : e0 < 2 ^ 60) (hOr : Ord s0 (BS (S l)) e0) (h : Kn 0 M) : f_X9_batchFaults Y (q 0 13) (q (l + 1) 0) M Kn := by
  have hd := sdims hC
  have hGl := hG.1 l hl
  have hct := Geo_count hG hl
  have hPB := PS_len (S l)
  have n11 := sn_0_11 hC
  obtain ⟨a1, a2, a3, a4⟩ := hLC.2.2 l hl
  have hW : W * 1024 ≤ 16 * 1024 := Nat.mul_le_mul_right _ hd.2.2.2.1
  unfold f_X9_batchFaults
  refine ⟨sk_t_0 hC l hl, fun x2 e2 => ?_⟩
  rw [a3, hst] at e2
  subst e2
  have psle : ∀ i, (PS ((S l).take i)).length ≤ (PS (S l)).length := fun i => by
    have : PS (S l) = PS ((S l).take i) ++ PS ((S l).drop i) := by rw [← PS_app, List.take_append_drop]
    rw [this, List.length_append]; omega
  refine LOOP5_inv (fun x3 x4 x5 x6 M7 => ∃ s d, s ≤ (S l).length ∧ x3 = 0 ∧ x6 = nI s ∧ x4 = nI (PS ((S l).take s)).length ∧ x5 = lN d ∧ Ord d ((BS (S l)).drop (PS ((S l).take s)).length) e0 ∧ M7 = M) (fun _ _ _ x6 _ => (S l).length - x6.toNatClampNeg) ?_ _ _ _ _ _ ⟨0, s0, by omega, rfl, rfl, rfl, rfl, hOr, rfl⟩
  rintro x3 x4 x5 x6 M7 again ⟨s, d, hs, rfl, rfl, rfl, rfl, ho, rfl⟩ hag
  unfold L_X9_batchFaults_13
  rw [a2.1, nI_cmp (by omega) (by omega)]
  refine ⟨fun _ => h, fun c => ?_⟩
  obtain ⟨g, hg⟩ := lt_some (show s < (S l).length by omega)
  have hgg := hGl.2 g (List.mem_of_getElem? hg)
  have hpl := psle (s + 1)
  rw [PS_s hg] at hpl
  have hg1024 : g.1 * 1024 + W * 1024 ≤ nB * 1024 := by rw [← Nat.add_mul]; exact Nat.mul_le_mul_right _ hgg.2.1
  have hgb : g.1 * 1024 ≤ 262144 := Nat.le_trans (by omega) (Nat.mul_le_mul_right 1024 hd.2.2.2.2.2)
  have nb262 : nB * 1024 ≤ 262144 := Nat.mul_le_mul_right 1024 hd.2.2.2.2.2
  obtain ⟨P0, eP0⟩ : ∃ P0, P0 = g.1 * 1024 := ⟨_, rfl⟩
  have eszt : sz g = tot g.2 := rfl
  refine ⟨_, sr_t_4 hR l hl, sk_t_1 hC l hl, by rw [sn_t_1 hC l hl]; exact vp_in_nI (by omega) (by decide), fun x12 e12 => ⟨_, sr_t_5 hR l hl, sk_t_2 hC l hl, by rw [sn_t_2 hC l hl]; exact vp_in_nI (by omega) (by decide), fun x16 e16 => ?_⟩⟩
  rw [nI_clamp (by omega), Ar_map a2.2.2.1 hg, show (1024 : Int32) = nI 1024 from rfl, pk_mul, ← eP0] at e12
  rw [nI_clamp (by omega), Ar_map a2.2.2.2.1 hg, e12, nI_add] at e16
  subst e12 e16
  rw [← eP0] at hg1024 hgb
  refine LOOP6_inv (fun x17 x18 x19 x20 x21 M22 => ∃ k d, k ≤ g.2.length ∧ x17 = 0 ∧ x18 = nI ((PS ((S l).take s)).length + k) ∧ x19 = lN d ∧ x20 = nI (P0 + tot (g.2.take k)) ∧ x21 = nI k ∧ Ord d ((BS (S l)).drop ((PS ((S l).take s)).length + k)) e0 ∧ M22 = M7) (fun _ _ _ _ x21 _ => g.2.length - x21.toNatClampNeg) ?_ _ _ _ _ _ _ ⟨0, d, by omega, rfl, rfl, rfl, rfl, rfl, ho, rfl⟩
  rintro x17 x18 x19 x20 x21 M22 again2 ⟨k, d', hk, rfl, rfl, rfl, rfl, rfl, ho', rfl⟩ hag2
  have htk := tot_mono g.2 k
  unfold L_X9_batchFaults_50
  refine ⟨_, sr_t_6 hR l hl, sk_t_3 hC l hl, by rw [sn_t_3 hC l hl]; exact vp_in_nI (by omega) (by decide), ?_⟩
  rw [nI_clamp (by omega), Ar_map a2.2.2.2.2.1 hg, nI_cmp (by omega) (by omega)]
  refine ⟨fun c2 => ?_, fun c2 => ?_⟩
  · have hkk : k = g.2.length := by omega
    subst hkk
    rw [List.take_of_length_le (Nat.le_refl _)]
    unfold f_X9_batchFaults_218 f_X9_batchFaults_228
    rw [← eszt]
    refine ⟨fun _ x27 e27 => ?_, fun z => absurd rfl z⟩
    rw [nI_1] at e27
    subst e27
    refine hag _ _ _ _ _ ⟨s + 1, d', by omega, rfl, rfl, by rw [PS_s hg], rfl, by rw [PS_s hg]; exact ho', rfl⟩ ?_
    rw [nI_clamp (by omega), nI_clamp (by omega)]; omega
  · obtain ⟨b, hb⟩ := lt_some (show k < g.2.length by omega)
    have hix := PS_ix hg hb
    rw [← eP0] at hix
    obtain ⟨v1, v2, v3, v4⟩ := c_at (Y := Y) hG hLC hD hl hix
    obtain ⟨w1, w2⟩ := BS_at (W := W) (nB := nB) hOK hl hix
    dsimp only at v1 v2 v3 v4 w1 w2
    rw [drop_s w1] at ho'
    obtain ⟨a, la, o1, o2, o3, o4, o5⟩ := ho'
    have o6 := Ord_le o5
    have htt := tot_take hb
    have htk1 := tot_mono g.2 (k + 1)
    have i31 : (PS ((S l).take s)).length + k < 2 ^ 31 := by omega
    have hin : vp_in (nI ((PS ((S l).take s)).length + k)) (yN Y (q (l + 1) 4)) := by rw [sn_t_4 hC l hl]; exact vp_in_nI (by omega) (by omega)
    rw [a2.2.1, nI_cmp (by omega) (by omega)]
    refine ⟨fun z => by omega, fun _ => ⟨sk_0_13 hC, _, sr_0_13_0 hR, sk_0_10 hC, _, sr_0_10_0 hR, _, sr_t_8 hR l hl, sk_t_4 hC l hl, hin, ?_⟩⟩
    rw [nI_clamp i31, v1]
    obtain ⟨P, eP⟩ : ∃ P, P = P0 + tot (g.2.take k) := ⟨_, rfl⟩
    rw [← eP] at v1 v2 v3 ⊢
    have w21 := w2.2.1
    refine s_sizeOf (sk_0_11 hC) (by omega) (by omega) ⟨_, sr_t_8 hR l hl, sk_t_4 hC l hl, hin, ?_⟩
    rw [v1, sz_B v2 w2, show (61 : Int32) = nI 61 from rfl, nI_ltI (by omega) (by omega), show nI (P0 + sz g) - nI P = nI (P0 + sz g - P) from pk_sub (by omega), nI_ltI (by omega) (by omega)]
    refine ⟨fun z => absurd rfl z, fun _ => ⟨fun z => by omega, fun _ => ⟨fun z => by omega, fun _ => ?_⟩⟩⟩
    unfold f_X9_batchFaults_121
    refine ⟨fun z => absurd z (by decide), fun _ => ⟨_, sr_0_13_0 hR, sk_0_10 hC, _, sr_0_10_0 hR, s_hasTrueChecksum (sk_0_11 hC) (by omega) (by omega) (by omega) ?_⟩⟩
    rintro r (⟨rfl, hr⟩ | ⟨rfl, hr⟩)
    rotate_left
    · exact absurd ((bt_fB v2 v4).mpr w2.2.2.2.2.1) hr
    refine ⟨fun z => absurd z (by decide), fun _ => ?_⟩
    unfold f_X9_isInOrder f_X9_isInOrder_47 f_X9_isInOrder_48
    refine ⟨sk_0_13 hC, _, sr_0_13_0 hR, sk_0_10 hC, _, sr_0_10_0 hR, s_baseOf (sk_0_11 hC) (by omega) (by omega) ?_⟩
    rw [ba_fB v2 v4, o1, pk_lLT (by omega) (by omega)]
    refine ⟨fun z => by omega, fun _ => ⟨_, sr_0_13_0 hR, sk_0_10 hC, _, sr_0_10_0 hR, s_lastOf (sk_0_11 hC) (by omega) (by omega) ⟨sk_t_0 hC l hl, ?_⟩⟩⟩
    rw [la_fB v2 v4, o2, nI_l (by omega), lN_add, a4, hen, pk_lLE (by omega) (by omega)]
    refine ⟨fun z => by omega, fun _ => ⟨bz_1, fun _ => ?_, fun z => absurd z (by decide)⟩⟩
    unfold f_X9_batchFaults_160
    refine ⟨_, sr_0_13_0 hR, sk_0_10 hC, _, sr_0_10_0 hR, _, sr_t_8 hR l hl, sk_t_4 hC l hl, hin, ?_⟩
    rw [nI_clamp i31, v1]
    refine s_baseOf (sk_0_11 hC) (by omega) (by omega) ⟨_, sr_0_13_0 hR, sk_0_10 hC, _, sr_0_10_0 hR, _, sr_t_8 hR l hl, sk_t_4 hC l hl, hin, ?_⟩
    rw [v1]
    refine s_lastOf (sk_0_11 hC) (by omega) (by omega) (fun x63 e63 => ⟨_, sr_t_8 hR l hl, sk_t_4 hC l hl, hin, fun x67 e67 x68 e68 x69 e69 => ?_⟩)
    rw [ba_fB v2 v4, o1, la_fB v2 v4, o2, nI_l (by omega), lN_add, lN_1] at e63
    rw [v1, nI_add] at e67
    rw [nI_1] at e68 e69
    subst e63 e67 e68 e69
    refine hag2 _ _ _ _ _ _ ⟨k + 1, a + la + 1, by omega, rfl, rfl, rfl, by rw [htt]; congr 1; omega, rfl, by rw [← Nat.add_assoc]; exact o5, rfl⟩ ?_
    rw [nI_clamp (by omega), nI_clamp (by omega)]; omega
theorem cv_lo {nL W nB : Nat} {S : Nat → List Sg} (hG : Geo nL W nB S) {b : Nat} (hb : b < nL + 2) : cv W (FFs S (nL + 1)) b = 0 := by
  unfold cv
  rw [List.length_eq_zero_iff, List.filter_eq_nil_iff]
  intro x hx
  obtain ⟨l, hl, s, hs, e⟩ := FFs_mem hx
  have := ((hG.1 l (by omega)).2 s hs).1
  rw [decide_eq_true_eq]; omega
set_option maxRecDepth 20000 in
theorem c_audit {Y : Ly} {q : Nat → Nat → Nat} {nL W nB : Nat} {M : Mm} {st : Nat → Int64} {L : LSt} {n : Nat} {Kn : Int32 → Mm → Prop} (hC : SC Y q nL W nB) (hR : SR q nL (mR M)) (hI : IL nL W nB n st L) (hn : n < 2 ^ 50) (hLC : LogC q nL W nB M st (lE L) (lS L)) (hD : DkA nL (mI M (q 0 11)) st (lE L) (lS L))
    (h : ∀ M', Fr q (fun a b => a = 0 ∧ (b = 15 ∨ b = 16)) M M' → Kn 0 M') : f_X9_countFaults Y (q 0 13) M Kn := by
  have hd := sdims hC
  obtain ⟨hG, hOK, hE, hN, hP⟩ := hI
  unfold f_X9_countFaults
  refine ⟨sk_0_13 hC, q 0 14, sr_0_13_1 hR, sk_0_14 hC, fun x4 e4 => ?_⟩
  rw [sn_0_14 hC] at e4
  subst e4
  refine LOOP3_inv (fun x5 x6 M7 => ∃ i, i ≤ nL + 1 ∧ x5 = 0 ∧ x6 = nI i ∧ Fr q (fun a b => a = 0 ∧ (b = 15 ∨ b = 16)) M M7) (fun _ x6 _ => nL + 1 - x6.toNatClampNeg) ?_ _ _ _ ⟨0, by omega, rfl, rfl, Fr_refl _ _ _⟩
  rintro x5 x6 M7 again ⟨i, hi, rfl, rfl, F⟩ hag
  have hR7 : SR q nL (mR M7) := by rw [F.2]; exact hR
  have hLC7 : LogC q nL W nB M7 st (lE L) (lS L) := LogC_fr hC hLC F (by omega) (fun l c => by omega)
  have hD7 : DkA nL (mI M7 (q 0 11)) st (lE L) (lS L) := by rw [Fr_I hC F (by omega)]; exact hD
  unfold L_X9_countFaults_13
  rw [nI_cmp (by omega) (by omega)]
  refine ⟨fun c => ?_, fun c => ⟨by rw [sn_0_14 hC]; exact vp_in_nI (by omega) (by omega), q (i + 1) 0, by rw [nI_clamp (by omega)]; exact sr_0_14 hR7 i (by omega), ?_⟩⟩
  · refine c_countUses hC hR7 hLC7.1 (fun l hl => (hLC7.2.2 l hl).2.1) (fun l hl => (hG.1 l hl).1) (fun l hl s hs => ((hG.1 l hl).2 s hs).2.1) (fun b => Nat.le_trans (hG.2 b) (by decide)) (fun u hu => ?_)
    have F9 : Fr q (fun a b => a = 0 ∧ (b = 15 ∨ b = 16)) M (sI M7 (q 0 15) u) := Fr_trans F (Fr_sI _ _ _ _ ⟨rfl, Or.inl rfl⟩)
    have h3 : mI (sI M7 (q 0 15) u) (q 0 13) 3 = nI (nL + 2) := by rw [I_ne hC _ _ (by omega)]; exact hLC7.2.1
    refine LOOP2_inv (fun x10 x11 => ∃ b, b ≤ nB ∧ x10 = 0 ∧ x11 = nI b) (fun _ x11 => nB - x11.toNatClampNeg) ?_ _ _ ⟨0, by omega, rfl, rfl⟩
    rintro x10 x11 again2 ⟨b, hb, rfl, rfl⟩ hag2
    unfold L_X9_countFaults_53
    refine ⟨_, sr_0_13_4 hR7, sk_0_15 hC, ?_⟩
    rw [sn_0_15 hC, nI_cmp (by omega) (by omega)]
    refine ⟨fun _ => h _ F9, fun c2 => ⟨_, sr_0_13_4 hR7, sk_0_15 hC, by rw [sn_0_15 hC]; exact vp_in_nI (by omega) (by omega), ?_⟩⟩
    have nxt : f_X9_countFaults_87 Y (nI b) again2 0 := by
      intro x20 e20
      rw [nI_1] at e20
      subst e20
      refine hag2 _ _ ⟨b + 1, by omega, rfl, rfl⟩ ?_
      rw [nI_clamp (by omega), nI_clamp (by omega)]; omega
    have hcv := hG.2 b
    have hub : mI (sI M7 (q 0 15) u) (q 0 15) (nI b).toNatClampNeg = nI (cv W (FFs (lS L) (nL + 1)) b) := by rw [mI_sI_self, nI_clamp (by omega)]; exact hu b (by omega)
    unfold f_X9_countFaults_81
    rw [h3, nI_cmp (by omega) (by omega), hub]
    refine ⟨fun _ => ⟨fun _ => nxt, fun z => absurd ?_ z⟩, fun c3 => ⟨fun _ => nxt, fun z => absurd ?_ z⟩⟩
    · rw [show (1 : Int32) = nI 1 from rfl, nI_cmp (by omega) (by omega)]; exact hcv
    · rw [cv_lo hG (by omega)]; decide
  · obtain ⟨s, e, y1, y2, y3, y4⟩ := hE i (by omega)
    refine c_headF hC hR7 hG hLC7 hD7 (by omega) (fun M' F' J' => ?_)
    have FM : Fr q (fun a b => a = 0 ∧ (b = 15 ∨ b = 16)) M7 M' := Fr_mono F' (fun a b z => ⟨z.1, Or.inr z.2⟩)
    refine c_batchF hC (by rw [FM.2]; exact hR7) hG (LogC_fr hC hLC7 FM (by omega) (fun l c => by omega)) (by rw [Fr_I hC FM (by omega)]; exact hD7) hOK (by omega) y1 y2 (by omega) y4 (fun x30 e30 x31 e31 => ?_)
    rw [nI_1] at e31
    have e30' : x30 = 0 := e30
    subst e30' e31
    refine hag _ _ _ ⟨i + 1, by omega, rfl, rfl, Fr_trans F FM⟩ ?_
    rw [nI_clamp (by omega), nI_clamp (by omega)]; omega
