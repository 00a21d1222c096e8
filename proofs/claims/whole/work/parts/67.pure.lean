theorem SM_of {q : Nat → Nat → Nat} {R R' : Nat → Nat → Option Nat} (h : SM q R) (hR : ∀ f, f ≠ 23 → f ≠ 24 → f ≠ 40 → R' (q 20 0) f = R (q 20 0) f) : SM q R' :=
  ⟨(hR 10 (by decide) (by decide) (by decide)).trans (sm_10 h), (hR 13 (by decide) (by decide) (by decide)).trans (sm_13 h), (hR 14 (by decide) (by decide) (by decide)).trans (sm_14 h), (hR 15 (by decide) (by decide) (by decide)).trans (sm_15 h), (hR 16 (by decide) (by decide) (by decide)).trans (sm_16 h), (hR 17 (by decide) (by decide) (by decide)).trans (sm_17 h), (hR 19 (by decide) (by decide) (by decide)).trans (sm_19 h), (hR 20 (by decide) (by decide) (by decide)).trans (sm_20 h), (hR 21 (by decide) (by decide) (by decide)).trans (sm_21 h), (hR 22 (by decide) (by decide) (by decide)).trans (sm_22 h), (hR 26 (by decide) (by decide) (by decide)).trans (sm_26 h), (hR 27 (by decide) (by decide) (by decide)).trans (sm_27 h), (hR 28 (by decide) (by decide) (by decide)).trans (sm_28 h), (hR 29 (by decide) (by decide) (by decide)).trans (sm_29 h), (hR 30 (by decide) (by decide) (by decide)).trans (sm_30 h), (hR 31 (by decide) (by decide) (by decide)).trans (sm_31 h), (hR 32 (by decide) (by decide) (by decide)).trans (sm_32 h), (hR 34 (by decide) (by decide) (by decide)).trans (sm_34 h), (hR 35 (by decide) (by decide) (by decide)).trans (sm_35 h), (hR 36 (by decide) (by decide) (by decide)).trans (sm_36 h), (hR 37 (by decide) (by decide) (by decide)).trans (sm_37 h), (hR 38 (by decide) (by decide) (by decide)).trans (sm_38 h), (hR 39 (by decide) (by decide) (by decide)).trans (sm_39 h), (hR 54 (by decide) (by decide) (by decide)).trans (sm_54 h), (hR 55 (by decide) (by decide) (by decide)).trans (sm_55 h), (hR 56 (by decide) (by decide) (by decide)).trans (sm_56 h), (hR 57 (by decide) (by decide) (by decide)).trans (sm_57 h), (hR 58 (by decide) (by decide) (by decide)).trans (sm_58 h), (hR 59 (by decide) (by decide) (by decide)).trans (sm_59 h), (hR 60 (by decide) (by decide) (by decide)).trans (sm_60 h), (hR 61 (by decide) (by decide) (by decide)).trans (sm_61 h), (hR 62 (by decide) (by decide) (by decide)).trans (sm_62 h), (hR 63 (by decide) (by decide) (by decide)).trans (sm_63 h), (hR 65 (by decide) (by decide) (by decide)).trans (sm_65 h), (hR 66 (by decide) (by decide) (by decide)).trans (sm_66 h), (hR 67 (by decide) (by decide) (by decide)).trans (sm_67 h)⟩
theorem LogM_of {q : Nat → Nat → Nat} {nL W nB : Nat} {M M' : Mm} {st en : Nat → Int64} {S : Nat → List Sg} {B : List Bm} {hp ht : Nat} (h : LogM q nL W nB M st en S B hp ht) (h0 : ∀ j, (j = 1 ∨ j = 2 ∨ j = 3 ∨ j = 18 ∨ j = 25) → mI M' (q 20 0) j = mI M (q 20 0) j) (h1 : ∀ b, (b = 20 ∨ b = 21 ∨ b = 22 ∨ b = 23 ∨ b = 24 ∨ b = 25 ∨ b = 29 ∨ b = 30 ∨ b = 31) → mI M' (q 20 b) = mI M (q 20 b)) (hJ : ∀ b, (b = 27 ∨ b = 28) → mJ M' (q 20 b) = mJ M (q 20 b)) (hR : mR M' (q 20 0) 23 = mR M (q 20 0) 23 ∧ mR M' (q 20 0) 24 = mR M (q 20 0) 24) : LogM q nL W nB M' st en S B hp ht := by
  obtain ⟨⟨a1, a2, a3⟩, a4, a5, a6, ⟨a7, a8, a9⟩, a10, a11, a12, a13⟩ := h
  refine ⟨⟨by rw [h0 1 (by simp), a1], by rw [h0 2 (by simp), a2], by rw [h0 3 (by simp), a3]⟩, by rw [h0 18 (by simp), a4], by rw [h0 25 (by simp), a5], a6, ⟨a7, by rw [hR.1, a8], by rw [hR.2, a9]⟩, ?_, ?_, ?_, a13⟩
  · rw [h1 20 (by simp), h1 21 (by simp), h1 22 (by simp), h1 23 (by simp), h1 hp (by omega)]; exact a10
  · rw [h1 29 (by simp), h1 30 (by simp), h1 31 (by simp)]; exact a11
  · intro l hl; rw [hJ 27 (by simp), hJ 28 (by simp)]; exact a12 l hl
def ApC (Sl T : List Sg) (k x l : Nat) (b : Bt) (x5 y9 : Int32) : Prop :=
  (¬ y9 = 0 ∧ ∃ S0 bs, Sl = S0 ++ [(k, bs)] ∧ T = S0 ++ [(k, bs ++ [b])] ∧ x = sz (k, bs) ∧ x5 = nI (60 * l + S0.length)) ∨ (y9 = 0 ∧ T = Sl ++ [(k, [b])] ∧ x = 0 ∧ Sl.length < 60)
set_option maxRecDepth 8000 in
theorem m_append {Y : Ly} {q : Nat → Nat → Nat} {nL W nB hp ht l c : Nat} {S : Nat → List Sg} {B : List Bm} {st en : Nat → Int64} {bt : Bt} {M : Mm} {Kn : Int32 → Mm → Prop} (hC : SC Y q nL W nB) (hM : SM q (mR M)) (hl : l ≤ nL) (hc : c = 11 ∨ c = 68) (hG : Geo nL W nB S) (hLM : LogM q nL W nB M st en S B hp ht) (hlf : LfOK (mI M (q 20 0) 7)) (hL : Lie (mI M (q 20 c)) 0 (m8 bt)) (hBy : Bys bt) (h61 : 61 ≤ bt.length) (hbW : bt.length ≤ W * 1024) (hcl : bt.length ≤ yN Y (q 20 c))
    (hfull : AddF nL W nB S l bt.length → ∀ u, Kn (-2) (sI M (q 20 32) u))
    (h : ∀ T k x, AddR nL W nB S l (based (en l) bt) T k x → ∀ M' l' ad dn full, SpR (mI M (q 20 0) 7) (tch x bt.length + 1) l' ad dn full → FrM q svA M M' → (∀ f, f ≠ 23 → f ≠ 24 → mR M' (q 20 0) f = mR M (q 20 0) f) → (∀ j, j ≠ 5 → j ≠ 6 → j ≠ 7 → j ≠ 18 → j ≠ 25 → mI M' (q 20 0) j = mI M (q 20 0) j) → mJ M' (q 20 0) = mJ M (q 20 0) → mI M' (q 20 0) 6 = mI M (q 20 0) 6 + nI ad → mI M' (q 20 0) 7 = l' → mI M' (q 20 0) 5 = dn →
      (full → ∃ B' hp' ht', LogM q nL W nB M' st (m1 en l (en l + (cntB bt).toInt64)) (m1 S l T) B' hp' ht') → (¬ full → LogM q nL W nB M' st en S B hp ht) → Kn (if dn = 0 then 1 else -3) M') : f_X12_append Y (q 20 0) (nI l) (q 20 c) (nI bt.length) M Kn := by
  have hd := sdims hC
  obtain ⟨⟨a1, a2, a3⟩, a4, a5, a6, a7, a10, a11, a12, a13⟩ := id hLM
  have hGl := hG.1 l hl
  have hSl := a11 l hl
  have hbl := based_len (en l) h61
  have htl := Lnk_tl hG a13
  have hct := Lnk_count hG a13
  have hhp := a7.1
  have n29 : vp_in (nI l) (yN Y (q 20 29)) := by rw [sn_20_29 hC]; exact vp_in_nI (by omega) (by decide)
  -- behind the choice of the place
  have t116 : ∀ (T : List Sg) (k x : Nat) (u : Nat → Int32) (x5 y9 : Int32), AddR nL W nB S l (based (en l) bt) T k x → ApC (S l) T k x l (based (en l) bt) x5 y9 → f_X12_append_116 Y (q 20 0) (nI l) (q 20 c) (nI bt.length) Kn x5 y9 (nI k) (sI M (q 20 32) u) (nI x) := by
    intro T k x u x5 y9 hAdd hcase
    obtain ⟨g1, g2, g3, g4⟩ := Add_reg hG hl (by omega) (by omega) hAdd
    have hG' := Add_Geo hG hl (by omega) (by omega) hAdd
    rw [hbl] at g3
    unfold f_X12_append_116
    refine m_touched (by omega) ?_
    have htn : tch x bt.length ≤ bt.length := by unfold tch; split <;> omega
    rw [nI_1]
    have z0 : mI (sI M (q 20 32) u) (q 20 0) = mI M (q 20 0) := I_ne hC _ _ (by omega)
    refine m_spend (sk_20_0 hC) (by omega) (by rw [z0]; exact hlf) ?_
    rw [z0]
    intro l' ad dn full hsp r hr hrf
    obtain ⟨M17, hM17⟩ : ∃ M17, M17 = sI (sI M (q 20 32) u) (q 20 0) (m1 (m1 (m1 (mI M (q 20 0)) 6 (mI M (q 20 0) 6 + nI ad)) 7 l') 5 dn) := ⟨_, rfl⟩
    rw [← hM17]
    have i17 : mI M17 (q 20 0) = m1 (m1 (m1 (mI M (q 20 0)) 6 (mI M (q 20 0) 6 + nI ad)) 7 l') 5 dn := by rw [hM17, mI_sI_self]
    have n17 : ∀ b, b ≠ 0 → b ≠ 32 → mI M17 (q 20 b) = mI M (q 20 b) := fun b h1 h2 => by rw [hM17, I_ne hC _ _ (by omega), I_ne hC _ _ (by omega)]
    have R17 : mR M17 = mR M := by rw [hM17]; rfl
    have J17 : mJ M17 = mJ M := by rw [hM17]; rfl
    have F17 : FrM q svA M M17 := by
      rw [hM17]
      exact FrM_trans (FrM_of (Fr_sI _ _ _ _ ⟨rfl, by simp⟩)) (FrM_of (Fr_sI _ _ _ _ ⟨rfl, by simp⟩))
    have f17 : ∀ j, j ≠ 5 → j ≠ 6 → j ≠ 7 → mI M17 (q 20 0) j = mI M (q 20 0) j := fun j h5 h6 h7 => by rw [i17]; simp [m1, h5, h6, h7]
    have w17 : mI M17 (q 20 0) 6 = mI M (q 20 0) 6 + nI ad := by rw [i17]; simp [m1]
    have l17 : mI M17 (q 20 0) 7 = l' := by rw [i17]; simp [m1]
    have d17 : mI M17 (q 20 0) 5 = dn := by rw [i17]; simp [m1]
    clear hM17 i17
    refine ⟨fun r0 => ?_, fun r0 => ?_⟩
    · -- not all was written
      have hnf : ¬ full := fun hf => by rw [hrf.mpr hf] at r0; exact absurd r0 (by decide)
      have key := h T k x hAdd M17 l' ad dn full hsp F17 (fun f _ _ => by rw [R17]) (fun j h5 h6 h7 _ _ => f17 j h5 h6 h7) (by rw [J17]) w17 l17 d17 (fun hf => absurd hf hnf) (fun _ => LogM_of hLM (fun j hj => f17 j (by omega) (by omega) (by omega)) (fun b hb => n17 b (by omega) (by omega)) (fun b _ => by rw [J17]) ⟨by rw [R17], by rw [R17]⟩)
      unfold f_X12_append_332 f_X12_append_345
      rw [d17]
      exact ⟨fun z => by rwa [if_pos z] at key, fun z => by rwa [if_neg z] at key⟩
    have hf : full := hrf.mp (bz_ne0 hr r0)
    -- the rows of segments, then the batch
    have t173 : ∀ (T0 : List Sg) (bs : List Bt) (M24 : Mm) (i : Nat), T = T0 ++ [(k, bs ++ [based (en l) bt])] → sz (k, bs) = x → i = T0.length → Fr q (fun a b => a = 20 ∧ (b = 29 ∨ b = 30 ∨ b = 31)) M17 M24 → mJ M24 = mJ M17 → SegM nL (mI M24 (q 20 29)) (mI M24 (q 20 30)) (mI M24 (q 20 31)) (m1 S l (T0 ++ [(k, bs)])) → f_X12_append_173 Y (q 20 0) (nI l) (q 20 c) (nI bt.length) Kn (nI k) (nI (60 * l + i)) M24 := by
      intro T0 bs M24 i eT ex ei F24 J24 S24
      subst ei
      have hT0 : T0.length < 60 := by
        have := (hG'.1 l hl).1
        rw [m1_self, eT] at this
        simp at this; omega
      have efl : mI M24 (q 20 31) (60 * l + T0.length) = nI x := by
        have := (S24 l hl).2 T0.length (k, bs) (by rw [m1_self]; exact snoc_last _ _)
        rw [this.2, ex]
      unfold f_X12_append_173
      refine ⟨_, by rw [F24.2, R17]; exact sm_30 hM, sk_20_31 hC, by rw [sn_20_31 hC]; exact vp_in_nI (by omega) (by decide), by rw [sn_20_31 hC]; exact vp_in_nI (by omega) (by decide), fun M29 e29 => ?_⟩
      rw [nI_clamp (by omega), efl, nI_add] at e29
      have F29 : Fr q (fun a b => a = 20 ∧ (b = 29 ∨ b = 30 ∨ b = 31)) M17 M29 := Fr_trans F24 (by rw [e29]; exact Fr_sI _ _ _ _ ⟨rfl, by simp⟩)
      have J29 : mJ M29 = mJ M := by rw [e29, mJ_sI, J24, J17]
      have R29 : mR M29 = mR M := by rw [F29.2, R17]
      have S29 : SegM nL (mI M29 (q 20 29)) (mI M29 (q 20 30)) (mI M29 (q 20 31)) (m1 S l T) := by
        intro l2 hl2
        have s2 := S24 l2 hl2
        rw [e29, I_ne hC _ _ (by omega), I_ne hC _ _ (by omega), mI_sI_self]
        by_cases e : l2 = l
        · subst e
          rw [m1_self] at s2 ⊢
          rw [eT]
          refine ⟨by rw [s2.1]; simp, fun i s hs => ?_⟩
          rcases snoc_get hs with ⟨rfl, rfl⟩ | ⟨hi, hs'⟩
          · refine ⟨(s2.2 T0.length (k, bs) (snoc_last _ _)).1, ?_⟩
            rw [m1_self, sz_add, ex, hbl]
          · have := s2.2 i s (snoc_lt hs')
            refine ⟨this.1, by rw [m1_ne _ _ (by omega)]; exact this.2⟩
        · rw [m1_ne _ _ e] at s2 ⊢
          refine ⟨s2.1, fun i s hs => ⟨(s2.2 i s hs).1, ?_⟩⟩
          have hi := some_lt hs
          have := (hG.1 l2 hl2).1
          rw [m1_ne _ _ (by omega)]
          exact (s2.2 i s hs).2
      have n29' : ∀ b, b ≠ 29 → b ≠ 30 → b ≠ 31 → mI M29 (q 20 b) = mI M17 (q 20 b) := fun b h1 h2 h3 => Fr_I hC F29 (by omega)
      clear e29 F24 J24 S24 efl
      have z29 : mI M29 (q 20 0) = mI M17 (q 20 0) := n29' 0 (by omega) (by omega) (by omega)
      have e25 : mI M29 (q 20 0) 25 = nI ht := by rw [z29, f17 25 (by decide) (by decide) (by decide), a5]
      have fin : ∀ (M30 : Mm) (hp1 ht1 : Nat) (B1 : List Bm), hpR q (mR M30) hp1 → FrM q (fun a b => a = 20 ∧ (b = 0 ∨ b = 21 ∨ b = 24 ∨ b = 25)) M29 M30 → (∀ f, f ≠ 23 → f ≠ 24 → mR M30 (q 20 0) f = mR M (q 20 0) f) → (∀ j, j ≠ 25 → mI M30 (q 20 0) j = mI M29 (q 20 0) j) → mJ M30 = mJ M → mI M30 (q 20 0) 25 = nI ht1 → BatM (mI M30 (q 20 20)) (mI M30 (q 20 21)) (mI M30 (q 20 22)) (mI M30 (q 20 23)) (mI M30 (q 20 hp1)) ht1 B1 → B1.length = B.length → Lnk nL S B1 → ht1 + bt.length ≤ 524288 → f_X12_append_200 Y (q 20 0) (nI l) (q 20 c) (nI bt.length) Kn (nI k) M30 := by
        intro M30 hp1 ht1 B1 hH1 F30 R30 i30 J30 e30 B30 hBl1 hLk1 hht1
        have hM30 : SM q (mR M30) := by
          exact SM_of hM (fun f h1 h2 _ => R30 f h1 h2)
        have c30 : mI M30 (q 20 c) = mI M (q 20 c) := by
          rw [FrM_I hC F30 (by omega), n29' c (by omega) (by omega) (by omega), n17 c (by omega) (by omega)]
        have hle : mJ M30 (q 20 28) l = en l := by rw [J30]; exact (a12 l hl).2
        refine m_app200 (bt := bt) (k := k) hC hM30 hH1 hl hc (by rw [i30 18 (by decide), z29, f17 18 (by decide) (by decide) (by decide), a4, hBl1]) e30 B30 (by omega) (by omega) (by rw [c30]; exact hL) hBy h61 hcl ?_
        rw [hle, i30 5 (by decide), z29, d17]
        intro M' F' R' i' J' e18' e25' B' E'
        have hhp1 := hH1.1
        have sub : ∀ a b, sv hp1 a b → svA a b := fun a b hab => ⟨hab.1, by have := hab.2; omega⟩
        have F29' : FrM q svA M M29 := FrM_trans F17 (FrM_mono (FrM_of F29) (fun a b hab => ⟨hab.1, by have := hab.2; omega⟩))
        have F30' : FrM q svA M M30 := FrM_trans F29' (FrM_mono F30 (fun a b hab => ⟨hab.1, by have := hab.2; omega⟩))
        have sg' : ∀ b, (b = 29 ∨ b = 30 ∨ b = 31) → mI M' (q 20 b) = mI M29 (q 20 b) := fun b hb => by
          rw [FrM_I hC F' (by unfold sv; omega), FrM_I hC F30 (by omega)]
        refine h T k x hAdd M' l' ad dn full hsp (FrM_trans F30' (FrM_mono F' sub)) (fun f h1 h2 => by rw [R', R30 f h1 h2]) (fun j h5 h6 h7 h18 h25 => by rw [i' j h18 h25, i30 j h25, z29, f17 j h5 h6 h7]) (by rw [J', J30]) (by rw [i' 6 (by decide) (by decide), i30 6 (by decide), z29, w17]) (by rw [i' 7 (by decide) (by decide), i30 7 (by decide), z29, l17]) (by rw [i' 5 (by decide) (by decide), i30 5 (by decide), z29, d17]) (fun _ => ⟨_, hp1, ht1 + bt.length, ⟨?_, ?_, ?_⟩, ?_, e25', by omega, by rw [R']; exact hH1, B', ?_, ?_, Lnk_snoc hl hAdd hLk1⟩) (fun hnf => absurd hf hnf)
        · rw [i' 1 (by decide) (by decide), i30 1 (by decide), z29, f17 1 (by decide) (by decide) (by decide), a1]
        · rw [i' 2 (by decide) (by decide), i30 2 (by decide), z29, f17 2 (by decide) (by decide) (by decide), a2]
        · rw [i' 3 (by decide) (by decide), i30 3 (by decide), z29, f17 3 (by decide) (by decide) (by decide), a3]
        · rw [e18', List.length_append]; rfl
        · rw [sg' 29 (by simp), sg' 30 (by simp), sg' 31 (by simp)]; exact S29
        · intro l2 hl2
          have h27 : mJ M' (q 20 27) = mJ M (q 20 27) := by rw [FrM_J hC F' (by unfold sv; omega), J30]
          rw [h27, E', J30]
          refine ⟨(a12 l2 hl2).1, ?_⟩
          by_cases e : l2 = l
          · subst e; rw [m1_self, m1_self]
          · rw [m1_ne _ _ e, m1_ne _ _ e]; exact (a12 l2 hl2).2
      rw [e25, nI_add, show (270000 : Int32) = nI 270000 from rfl, nI_cmp (by omega) (by omega)]
      have hB29 : BatM (mI M29 (q 20 20)) (mI M29 (q 20 21)) (mI M29 (q 20 22)) (mI M29 (q 20 23)) (mI M29 (q 20 hp)) ht B := by
        rw [n29' 20 (by omega) (by omega) (by omega), n29' 21 (by omega) (by omega) (by omega), n29' 22 (by omega) (by omega) (by omega), n29' 23 (by omega) (by omega) (by omega), n29' hp (by omega) (by omega) (by omega), n17 20 (by omega) (by omega), n17 21 (by omega) (by omega), n17 22 (by omega) (by omega), n17 23 (by omega) (by omega), n17 hp (by omega) (by omega)]
        exact a10
      refine ⟨fun c270 => fin M29 hp ht B (by rw [R29]; exact a7) (FrM_refl _ _ _) (fun f _ _ => by rw [R29]) (fun j _ => rfl) J29 e25 hB29 rfl a13 (by omega), fun c270 => ?_⟩
      refine m_tidy hC (by rw [R29]; exact hM) (by rw [R29]; exact a7) (by rw [z29, f17 18 (by decide) (by decide) (by decide), a4]) hB29 (by omega) (by omega) (by omega) ?_
      intro M30 F30 R30 H30 i30 J30 e30 B30
      refine fin M30 (49 - hp) (tl B) (rt 0 B) H30 (FrM_mono F30 (fun a b hab => ⟨hab.1, by have := hab.2; omega⟩)) (fun f h1 h2 => by rw [R30 f h1 h2, R29]) i30 (by rw [J30, J29]) e30 B30 (rt_len _ _) (Lnk_rt a13) (by omega)
    rcases hcase with ⟨hy9, S0, bs, e1, e2, e3, e4⟩ | ⟨hy9, e2, e3, e60⟩
    · refine ⟨fun _ => ?_, fun z => absurd z hy9⟩
      rw [e4]
      refine t173 S0 bs M17 S0.length e2 e3.symm rfl (Fr_refl _ _ _) rfl ?_
      rw [n17 29 (by omega) (by omega), n17 30 (by omega) (by omega), n17 31 (by omega) (by omega)]
      intro l2 hl2
      by_cases e : l2 = l
      · subst e
        rw [m1_self, ← e1]
        exact a11 l2 hl2
      · rw [m1_ne _ _ e]; exact a11 l2 hl2
    · refine ⟨fun z => absurd hy9 z, fun _ => ⟨_, by rw [R17]; exact sm_28 hM, sk_20_29 hC, n29, fun x77 e77 => ?_⟩⟩
      rw [nI_clamp (by omega), n17 29 (by omega) (by omega), hSl.1, show (60 : Int32) = nI 60 from rfl, pk_mul, nI_add] at e77
      subst e77
      refine ⟨_, by rw [R17]; exact sm_29 hM, sk_20_30 hC, by rw [sn_20_30 hC]; exact vp_in_nI (by omega) (by decide), fun M81 e81 => ?_⟩
      rw [nI_clamp (by omega), n17 30 (by omega) (by omega)] at e81
      refine ⟨_, by rw [e81, mR_sI, R17]; exact sm_30 hM, sk_20_31 hC, by rw [sn_20_31 hC]; exact vp_in_nI (by omega) (by decide), fun M85 e85 => ?_⟩
      rw [nI_clamp (by omega)] at e85
      refine ⟨_, by rw [e85, mR_sI, e81, mR_sI, R17]; exact sm_28 hM, sk_20_29 hC, n29, n29, fun M90 e90 => ?_⟩
      rw [nI_clamp (by omega)] at e90
      have i81 : mI M81 (q 20 31) = mI M (q 20 31) := by rw [e81, I_ne hC _ _ (by omega), n17 31 (by omega) (by omega)]
      have i85 : mI M85 (q 20 29) = mI M (q 20 29) := by rw [e85, I_ne hC _ _ (by omega), e81, I_ne hC _ _ (by omega), n17 29 (by omega) (by omega)]
      rw [i85, hSl.1, nI_1] at e90
      rw [i81] at e85
      refine t173 (S l) [] M90 (S l).length e2 (by rw [e3]; rfl) rfl ?_ ?_ ?_
      · rw [e90, e85, e81]
        exact Fr_trans (Fr_trans (Fr_sI _ _ _ _ ⟨rfl, by simp⟩) (Fr_sI _ _ _ _ ⟨rfl, by simp⟩)) (Fr_sI _ _ _ _ ⟨rfl, by simp⟩)
      · rw [e90, e85, e81]; rfl
      · have j29 : mI M90 (q 20 29) = m1 (mI M (q 20 29)) l (nI ((S l).length + 1)) := by rw [e90, mI_sI_self]
        have j30 : mI M90 (q 20 30) = m1 (mI M (q 20 30)) (60 * l + (S l).length) (nI k) := by rw [e90, I_ne hC _ _ (by omega), e85, I_ne hC _ _ (by omega), e81, mI_sI_self]
        have j31 : mI M90 (q 20 31) = m1 (mI M (q 20 31)) (60 * l + (S l).length) 0 := by rw [e90, I_ne hC _ _ (by omega), e85, mI_sI_self]
        rw [j29, j30, j31]
        intro l2 hl2
        have s2 := a11 l2 hl2
        by_cases e : l2 = l
        · subst e
          rw [m1_self, m1_self]
          refine ⟨by rw [List.length_append]; rfl, fun i s hs => ?_⟩
          rcases snoc_get hs with ⟨rfl, rfl⟩ | ⟨hi, hs'⟩
          · rw [m1_self, m1_self]; exact ⟨rfl, rfl⟩
          · rw [m1_ne _ _ (by omega), m1_ne _ _ (by omega)]; exact s2.2 i s hs'
        · rw [m1_ne _ _ e, m1_ne _ _ e]
          refine ⟨s2.1, fun i s hs => ?_⟩
          have hi := some_lt hs
          have := (hG.1 l2 hl2).1
          rw [m1_ne _ _ (by omega), m1_ne _ _ (by omega)]; exact s2.2 i s hs
  have nofit : ∀ x5, (∀ S0 s, S l = S0 ++ [s] → W * 1024 < sz s + bt.length) → f_X12_append_48 Y (q 20 0) (nI l) (q 20 c) (nI bt.length) M Kn x5 := by
    intro x5 hno
    unfold f_X12_append_48 f_X12_append_49
    refine m_mark hC hM a1 a2 a3 hG a11 ?_
    intro u hu
    refine ⟨fun _ => ⟨_, sm_28 hM, sk_20_29 hC, n29, ?_⟩, fun z => absurd rfl z⟩
    rw [nI_clamp (by omega), I_ne hC _ _ (by omega), hSl.1, show (60 : Int32) = nI 60 from rfl, nI_eq (by omega) (by omega)]
    refine ⟨fun c60 => ?_, fun c60 => ?_⟩
    · refine m_place (F := FFs S (nL + 1)) hC hM (by rw [I_ne hC _ _ (by omega)]; exact a1) (by rw [I_ne hC _ _ (by omega)]; exact a2) (by rw [I_ne hC _ _ (by omega)]; exact a3) (by rw [mI_sI_self]; exact hu) ?_ ?_
      · intro k hk
        have hkb := hk.2.1
        unfold f_X12_append_89
        refine ⟨fun _ => ⟨fun _ => ?_, fun z => absurd rfl z⟩, fun z => absurd (nI_pos' (by omega)) z⟩
        exact t116 _ k 0 u x5 0 (Or.inr ⟨by rw [hbl]; exact hno, by omega, hk, rfl, rfl⟩) (Or.inr ⟨rfl, rfl, rfl, by omega⟩)
      · intro hnr
        unfold f_X12_append_89
        exact ⟨fun z => absurd z (by decide), fun _ => hfull ⟨hno, Or.inr hnr⟩ u⟩
    · unfold f_X12_append_89
      exact ⟨fun z => absurd z (by decide), fun _ => hfull ⟨hno, Or.inl (by omega)⟩ u⟩
  unfold f_X12_append
  refine ⟨sk_20_0 hC, _, sm_28 hM, sk_20_29 hC, n29, fun x5 e5 => ⟨_, sm_28 hM, sk_20_29 hC, n29, ?_⟩⟩
  rw [nI_clamp (by omega), hSl.1] at e5 ⊢
  rw [show (0 : Int32) = nI 0 from rfl, nI_cmp (by omega) (by omega)]
  rcases app_nil_or (S l) with hnil | ⟨S0, s, hS⟩
  · refine ⟨fun _ => nofit x5 (fun S1 s1 hs => by rw [hnil] at hs; simp at hs), fun z => absurd (by rw [hnil]; exact Nat.le_refl _) z⟩
  · obtain ⟨k, bs⟩ := s
    have hS0 : S0.length < 60 := by have := hGl.1; rw [hS] at this; simp at this; omega
    rw [hS, List.length_append, List.length_singleton] at e5
    rw [show (60 : Int32) = nI 60 from rfl, pk_mul, nI_add, ← Nat.add_assoc] at e5
    have e5' : x5 = nI (60 * l + S0.length) := by rw [e5]; exact nI_pred _
    clear e5
    subst e5'
    have gs := hGl.2 (k, bs) (by rw [hS]; simp)
    have hfi := hSl.2 S0.length (k, bs) (by rw [hS]; exact snoc_last _ _)
    refine ⟨fun z => absurd z (by rw [hS]; simp), fun _ => ⟨_, sm_30 hM, sk_20_31 hC, by rw [sn_20_31 hC]; exact vp_in_nI (by omega) (by decide), ?_⟩⟩
    rw [nI_clamp (by omega), hfi.2, a2, show (1024 : Int32) = nI 1024 from rfl, pk_mul, nI_add, nI_ltI (by omega) (by omega)]
    refine ⟨fun cc => nofit _ (fun S1 s1 hs => ?_), fun cc => ?_⟩
    · rw [hS] at hs
      obtain ⟨-, h2⟩ := List.append_inj' hs rfl
      cases h2
      omega
    · have hAdd : AddR nL W nB S l (based (en l) bt) (S0 ++ [(k, bs ++ [based (en l) bt])]) k (sz (k, bs)) := Or.inl ⟨S0, bs, hS, by omega, rfl, rfl⟩
      unfold f_X12_append_49
      refine m_mark hC hM a1 a2 a3 hG a11 ?_
      intro u hu
      refine ⟨fun z => absurd z (by decide), fun _ => ⟨_, sm_29 hM, sk_20_30 hC, by rw [sn_20_30 hC]; exact vp_in_nI (by omega) (by decide), ?_⟩⟩
      rw [nI_clamp (by omega), I_ne hC _ _ (by omega), hfi.1]
      unfold f_X12_append_89
      refine ⟨fun _ => ⟨fun z => absurd z (by decide), fun _ => ⟨_, sm_30 hM, sk_20_31 hC, by rw [sn_20_31 hC]; exact vp_in_nI (by omega) (by decide), ?_⟩⟩, fun z => absurd (nI_pos' (by omega)) z⟩
      rw [nI_clamp (by omega), I_ne hC _ _ (by omega), hfi.2]
      exact t116 _ k _ u _ 1 hAdd (Or.inl ⟨by decide, S0, bs, hS, rfl, rfl, rfl⟩)
