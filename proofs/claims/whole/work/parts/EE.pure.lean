/-! the model: what is known, what goes, the form of what stays -/
theorem mb_split {l i : Nat} {B : List Bm} {x : Bm} (hx : B[i]? = some x) (hl : mL x = l) : mb l B = mb l (B.take i) ++ mB x :: mb l (B.drop (i + 1)) := by
  rw [← mb_in hx hl, ← mb_app, List.take_append_drop]
theorem fil_mb (l : Nat) (p : Int64) (Z : List Bm) : ((mb l Z).filter (fun c => decide (prB c = p))).length = (Z.filter (fun x => decide (mL x = l) && decide (prB (mB x) = p))).length := by
  unfold mb ofL
  rw [List.filter_map, List.length_map, List.filter_filter]
  congr 2
  funext x
  rw [Bool.and_comm]
  rfl
theorem kno_m {nL l i : Nat} {S : Nat → List Sg} {B : List Bm} (hk : Lnk nL S B) {x : Bm} (hx : B[i]? = some x) (hl : mL x = l) (hln : l ≤ nL) (p : Int64) : (((BS (S l)).drop ((mb l (B.take i)).length + 1)).filter (fun c => decide (prB c = p))).length = ((B.drop (i + 1)).filter (fun x => decide (mL x = l) && decide (prB (mB x) = p))).length := by
  rw [← mb_BS hk hln, mb_split hx hl, ← fil_mb]
  congr 2
  rw [show (mb l (B.take i)).length + 1 = (mb l (B.take i) ++ [mB x]).length from by simp, show mb l (B.take i) ++ mB x :: mb l (B.drop (i + 1)) = (mb l (B.take i) ++ [mB x]) ++ mb l (B.drop (i + 1)) from by simp]
  exact List.drop_left
theorem m_isKnown {Y : Ly} {q : Nat → Nat → Nat} {nL W nB : Nat} {hp ht : Nat} {S : Nat → List Sg} {B : List Bm} {st en : Nat → Int64} {M : Mm} (hC : SC Y q nL W nB) (hM : SM q (mR M)) (hG : Geo nL W nB S) (hLM : LogM q nL W nB M st en S B hp ht) (hOK : LogOK nL S) {l i : Nat} {x : Bm} {Kn : Int32 → Mm → Prop} (hl : l ≤ nL) (hx : B[i]? = some x) (hxl : mL x = l) (h1 : kno (BS (S l)) (mb l (B.take i)).length (mB x) → Kn 1 M) (h0 : ¬ kno (BS (S l)) (mb l (B.take i)).length (mB x) → Kn 0 M) : f_X12_isKnown Y (q 20 0) (nI i) M Kn := by
  have hd := sdims hC
  have hct := Lnk_count hG hLM.2.2.2.2.2.2.2.2
  have hi := some_lt hx
  have hlk := hLM.2.2.2.2.2.2.2.2
  have hb := m_bok hOK hLM hx
  obtain ⟨v1, v2, v3, v4, v5, v6, v7, v8, v9⟩ := m_at hG hLM hx
  have hpn : prB (mB x) < 0 ↔ prB (mB x) = -1 := by
    rcases hb.2.2.2.2.2.2.1 with e | ⟨e, -⟩
    · rw [e]; exact ⟨fun _ => rfl, fun _ => by decide⟩
    · exact ⟨fun z => absurd z (Int64.not_lt.mpr e), fun z => by rw [z] at e; exact absurd e (by decide)⟩
  have key : ∀ r, (if prB (mB x) < 0 then -1 else ans (fun z : Bm × Nat => z.2) (knL (fM l (prB (mB x))) r B.zipIdx.reverse)) = nI i ↔ prB (mB x) ≠ -1 ∧ r = (((BS (S l)).drop ((mb l (B.take i)).length + 1)).filter (fun c => decide (prB c = prB (mB x)))).length := by
    intro r
    by_cases z : prB (mB x) < 0
    · rw [if_pos z]
      exact ⟨fun c => absurd c.symm (nI_nm1 (by omega)), fun c => absurd (hpn.mp z) c.1⟩
    · rw [if_neg z]
      have hk := knL_ix (fun y : Bm => decide (mL y = l) && decide (prB (mB y) = prB (mB x))) _ _ rfl r i x hx
      rw [← kno_m hlk hx hxl hl] at hk
      have hk2 : knL (fM l (prB (mB x))) r B.zipIdx.reverse = some (x, i) ↔ (decide (mL x = l) && decide (prB (mB x) = prB (mB x))) = true ∧ r = (((BS (S l)).drop ((mb l (B.take i)).length + 1)).filter (fun c => decide (prB c = prB (mB x)))).length := hk
      have ht : (decide (mL x = l) && decide (prB (mB x) = prB (mB x))) = true := by simp [hxl]
      cases ek : knL (fM l (prB (mB x))) r B.zipIdx.reverse with
      | none =>
        rw [ek] at hk2
        show (-1 : Int32) = nI i ↔ _
        refine ⟨fun c => absurd c.symm (nI_nm1 (by omega)), fun c => ?_⟩
        have := hk2.mpr ⟨ht, c.2⟩
        cases this
      | some y =>
        rw [ek] at hk2
        obtain ⟨y, j⟩ := y
        have m := (knL_mem ek).1
        rw [List.mem_reverse] at m
        have hy : B[j]? = some y := zip_of m
        have hj := some_lt hy
        show nI j = nI i ↔ _
        rw [nI_eq (by omega) (by omega)]
        constructor
        · intro c
          subst c
          rw [hx] at hy
          cases hy
          exact ⟨fun w => z (hpn.mpr w), (hk2.mp rfl).2⟩
        · intro c
          have := hk2.mpr ⟨ht, c.2⟩
          cases this; rfl
  unfold f_X12_isKnown
  have hin : vp_in (nI i) (yN Y (q 20 20)) := by rw [sn_20_20 hC]; exact vp_in_nI (by omega) (by decide)
  refine LOOP3_inv (fun x1 x2 M3 => M3 = M ∧ ∃ r, r ≤ 5 ∧ x2 = nI r ∧ ((x1 = 1 ∧ kno (BS (S l)) (mb l (B.take i)).length (mB x)) ∨ (x1 = 0 ∧ ∀ r', r' < r → ¬ (prB (mB x) ≠ -1 ∧ r' = (((BS (S l)).drop ((mb l (B.take i)).length + 1)).filter (fun c => decide (prB c = prB (mB x)))).length)))) (fun _ x2 _ => 5 - x2.toNatClampNeg) ?_ _ _ _ ⟨rfl, 0, by omega, rfl, Or.inr ⟨rfl, fun r' h => absurd h (by omega)⟩⟩
  rintro x1 x2 M3 again ⟨eM, r, hr, rfl, hv⟩ hag
  subst eM
  unfold L_X12_isKnown_4 f_X12_isKnown_33 f_X12_isKnown_38
  rw [show (5 : Int32) = nI 5 from rfl, nI_cmp (by decide) (by omega)]
  refine ⟨fun c => ?_, fun c => ⟨fun c2 x7 e7 => ?_, fun c2 => ?_⟩⟩
  · rcases hv with ⟨w1, w2⟩ | ⟨w1, w2⟩
    · rw [w1]; exact ⟨Or.inr rfl, h1 w2⟩
    · rw [w1]; exact ⟨Or.inl rfl, h0 (fun k => w2 _ (by have := k.2; omega) ⟨k.1, rfl⟩)⟩
  · rcases hv with ⟨w1, w2⟩ | ⟨w1, w2⟩
    · rw [nI_1] at e7
      subst e7
      exact hag _ _ _ ⟨rfl, r + 1, by omega, rfl, Or.inl ⟨rfl, w2⟩⟩ (by rw [nI_clamp (by omega), nI_clamp (by omega)]; omega)
    · exact absurd w1 c2
  · rcases hv with ⟨w1, w2⟩ | ⟨w1, w2⟩
    · rw [w1] at c2; exact absurd c2 (by decide)
    · refine ⟨sk_20_0 hC, _, sm_19 hM, sk_20_20 hC, hin, m_pr hC hM hG hLM hx ?_⟩
      rw [nI_clamp (by omega), v1, hxl]
      refine m_knownOne hC hM hG hLM (by omega) hl ?_
      have kr := key r
      refine ⟨fun c3 x7 e7 => ?_, fun c3 x7 e7 => ?_⟩
      · rw [kr] at c3
        rw [nI_1] at e7
        subst e7
        refine hag _ _ _ ⟨rfl, r + 1, by omega, rfl, Or.inr ⟨rfl, fun r' h' => ?_⟩⟩ (by rw [nI_clamp (by omega), nI_clamp (by omega)]; omega)
        by_cases e : r' = r
        · rw [e]; exact c3
        · exact w2 r' (by omega)
      · rw [kr] at c3
        rw [nI_1] at e7
        subst e7
        exact hag _ _ _ ⟨rfl, r + 1, by omega, rfl, Or.inl ⟨rfl, c3.1, by have := c3.2; omega⟩⟩ (by rw [nI_clamp (by omega), nI_clamp (by omega)]; omega)
theorem mb_take {l i : Nat} {B : List Bm} {x : Bm} (hx : B[i]? = some x) (hl : mL x = l) : (mb l B)[(mb l (B.take i)).length]? = some (mB x) ∧ (mb l B).take (mb l (B.take i)).length = mb l (B.take i) := by
  rw [mb_split hx hl]
  exact ⟨by rw [List.getElem?_append_right (Nat.le_refl _), Nat.sub_self]; rfl, List.take_left⟩
theorem gon_m {nL W nB l i k : Nat} {S : Nat → List Sg} {B : List Bm} (hG : Geo nL W nB S) (hOK : LogOK nL S) (hk : Lnk nL S B) (hl : l ≤ nL) (hW : 1 ≤ W) {x : Bm} {c : Rc} {y : Nat × Bt} {now : Int32} (hx : B[i]? = some x) (hxl : mL x = l) (hy : (PS (S l))[(mb l (B.take i)).length]? = some y) (hc : (rsB (mB x))[k]? = some c) : y.2 = mB x ∧ (gon (aq (PS (S l))) now (ftB (mB x)) (rq (mB x) y.1 k c) c ↔ (tmb now (i, x, k, c) ∨ dm ((Rm l B).map kyE) ((Rm l (B.take i)).length + k))) := by
  have hi : i < B.length := some_lt hx
  obtain ⟨m1', m2⟩ := mb_take hx hxl
  rw [mb_BS hk hl] at m1' m2
  have ey : y.2 = mB x := by
    rw [← PS_snd, List.getElem?_map, hy] at m1'
    exact Option.some.inj m1'
  refine ⟨ey, ?_⟩
  have eK : (Rm l B).map kyE = (aq (PS (S l))).map (fun a => a.2) := by
    have := Rm_KY (l := l) (B := B) B.length (Nat.le_refl _)
    rw [List.take_of_length_le (Nat.le_refl _), mb_BS hk hl] at this
    rw [this, KY_aq, PS_snd]
  have eL : (Rm l (B.take i)).length = (aq ((PS (S l)).take (mb l (B.take i)).length)).length := by
    rw [Rm_len (by omega), aq_len, List.map_take, PS_snd, m2]
  have g := gon_dm (now := now) (k := k) (c := c) hG hOK hl hW hy (by rw [ey]; exact hc)
  rw [ey] at g
  rw [g, eK, eL]
  exact Or.comm
theorem wr_same {f : Nat → Int32} : ∀ {xs : List Int32} {a : Nat}, Lie f a xs → wr f a xs = f
  | [], _, _ => rfl
  | x :: xs, a, h => by
    have e : m1 f a x = f := by
      have := m1_same f a
      rw [show f a = x from h.1] at this; exact this
    show wr (m1 f a x) (a + 1) xs = f
    rw [e]; exact wr_same h.2
theorem gt_back {b : Bt} (hB : Bys b) (h61 : 61 ≤ b.length) : pb (gtB b) 8 = (b.drop 35).take 8 := by
  have hb : ∀ j, j < 61 → By (fB b j) := fun j hj => hB _ (by unfold fB; rw [List.getD_eq_getElem?_getD, List.getElem?_eq_getElem (show j < b.length by omega)]; exact List.getElem_mem _)
  have h1 : Lie (fB b) 35 (pb (gtB b) 8) := pb_back (fun j hj => hb _ (by omega))
  have h2 : Lie (fB b) 35 ((b.drop 35).take 8) := by
    have := Lie_take (Lie_drop (fB_Lie b) 35 (by omega)) 8
    rw [Nat.zero_add] at this; exact this
  exact Lie_fun h1 h2 (by rw [pb_len, List.length_take, List.length_drop]; omega)
theorem ms_form {g0 : Nat → Int32} {a : Nat} {b : Bt} {body : List Int32} {cnt : Int32} {gt : Int64} (h61 : 61 ≤ b.length) (hh : Lie g0 a (m8 (b.take 61))) (hb : Lie g0 (a + 61) (m8 body)) :
    Lie (wr (wr (wr g0 (a + 8) (m8 (pb (lN (49 + body.length)) 4))) (a + 35) (m8 (pb gt 8))) (a + 57) (m8 (pb cnt.toInt64 4))) (a + 21) (m8 (keT b cnt gt body)) ∧
    Lie (wr (wr (wr (wr g0 (a + 8) (m8 (pb (lN (49 + body.length)) 4))) (a + 35) (m8 (pb gt 8))) (a + 57) (m8 (pb cnt.toInt64 4))) (a + 17) (m8 (pb (ckv (keT b cnt gt body)).toInt64 4))) a (m8 (keB b cnt gt body)) := by
  obtain ⟨F, hF⟩ : ∃ F, F = wr (wr (wr g0 (a + 8) (m8 (pb (lN (49 + body.length)) 4))) (a + 35) (m8 (pb gt 8))) (a + 57) (m8 (pb cnt.toInt64 4)) := ⟨_, rfl⟩
  rw [← hF]
  have out : ∀ j, (j < a + 8 ∨ (a + 12 ≤ j ∧ j < a + 35) ∨ (a + 43 ≤ j ∧ j < a + 57) ∨ a + 61 ≤ j) → F j = g0 j := by
    intro j hj
    rw [hF, wr_out _ _ _ _ (by rw [m8_len, pb_len]; omega), wr_out _ _ _ _ (by rw [m8_len, pb_len]; omega), wr_out _ _ _ _ (by rw [m8_len, pb_len]; omega)]
  have pc : ∀ i n, i + n ≤ 61 → Lie g0 (a + i) (m8 ((b.drop i).take n)) := by
    intro i n hi
    have h1 := Lie_take (Lie_drop hh i (by rw [m8_len, List.length_take]; omega)) n
    have e : ((m8 (b.take 61)).drop i).take n = m8 ((b.drop i).take n) := by
      rw [m8_take, m8_take, m8_drop, List.drop_take, List.take_take, Nat.min_eq_left (by omega)]
    rwa [e] at h1
  have l14 : (m8 ((b.drop 21).take 14)).length = 14 := by rw [m8_len, List.length_take, List.length_drop]; omega
  have m14 : (m8 ((b.drop 43).take 14)).length = 14 := by rw [m8_len, List.length_take, List.length_drop]; omega
  have l8 : (m8 (b.take 8)).length = 8 := by rw [m8_len, List.length_take]; omega
  have l5 : (m8 ((b.drop 12).take 5)).length = 5 := by rw [m8_len, List.length_take, List.length_drop]; omega
  have q8 : Lie F (a + 8) (m8 (pb (lN (49 + body.length)) 4)) := by
    rw [hF]
    exact wr_keep (wr_keep (wr_Lie _ _ _) (by rw [m8_len, m8_len, pb_len, pb_len]; omega)) (by rw [m8_len, m8_len, pb_len, pb_len]; omega)
  have q35 : Lie F (a + 35) (m8 (pb gt 8)) := by
    rw [hF]
    exact wr_keep (wr_Lie _ _ _) (by rw [m8_len, m8_len, pb_len, pb_len]; omega)
  have q57 : Lie F (a + 57) (m8 (pb cnt.toInt64 4)) := by rw [hF]; exact wr_Lie _ _ _
  have T : Lie F (a + 21) (m8 (keT b cnt gt body)) := by
    unfold keT
    rw [m8_app, m8_app, m8_app, m8_app]
    refine Lie_app.mpr ⟨Lie_same (pc 21 14 (by decide)) (fun j h1 h2 => out j (by omega)), Lie_app.mpr ⟨?_, Lie_app.mpr ⟨?_, Lie_app.mpr ⟨?_, ?_⟩⟩⟩⟩
    · rw [l14]; exact q35
    · rw [l14, m8_len, pb_len]
      exact Lie_same (pc 43 14 (by decide)) (fun j h1 h2 => out j (by omega))
    · rw [l14, m8_len, pb_len, m14]; exact q57
    · rw [l14, m8_len, pb_len, m14, m8_len, pb_len]
      exact Lie_same hb (fun j h1 h2 => out j (by omega))
  refine ⟨T, ?_⟩
  have tl := keT_len cnt gt body h61
  unfold keB finB
  rw [m8_app, m8_app, m8_app, m8_app, tl, show 9 + (40 + body.length) = 49 + body.length by omega]
  have h0 : Lie F a (m8 (b.take 8)) := by
    have := pc 0 8 (by decide)
    rw [List.drop_zero, Nat.add_zero] at this
    exact Lie_same this (fun j h1 h2 => out j (by omega))
  have h12 : Lie F (a + 12) (m8 ((b.drop 12).take 5)) := Lie_same (pc 12 5 (by decide)) (fun j h1 h2 => out j (by omega))
  refine Lie_app.mpr ⟨wr_keep h0 (Or.inl (by rw [l8]; omega)), Lie_app.mpr ⟨?_, Lie_app.mpr ⟨?_, Lie_app.mpr ⟨?_, ?_⟩⟩⟩⟩
  · rw [l8]
    exact wr_keep q8 (by rw [m8_len, m8_len, pb_len, pb_len]; omega)
  · rw [l8, m8_len, pb_len]
    exact wr_keep h12 (by rw [l5, m8_len, pb_len]; omega)
  · rw [l8, m8_len, pb_len, l5]
    exact wr_Lie _ _ _
  · rw [l8, m8_len, pb_len, l5, m8_len, pb_len]
    exact wr_keep T (by rw [m8_len, m8_len, pb_len]; omega)
