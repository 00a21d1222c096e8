/-! notes found by the model -/
theorem mb_tin {l i : Nat} {B : List Bm} {x : Bm} (hx : B[i]? = some x) (h : mL x = l) : mb l (B.take (i + 1)) = mb l (B.take i) ++ [mB x] := by
  unfold mb ofL
  rw [take_s hx, List.filter_append, List.map_append, List.filter_cons_of_pos (by rw [decide_eq_true_eq]; exact h)]; rfl
theorem mb_tout {l i : Nat} {B : List Bm} {x : Bm} (hx : B[i]? = some x) (h : ¬ mL x = l) : mb l (B.take (i + 1)) = mb l (B.take i) := by
  unfold mb ofL
  rw [take_s hx, List.filter_append, List.filter_cons_of_neg (by rw [decide_eq_true_eq]; exact h)]; simp
theorem By_eq {p : Int32} {g : Nat} (hp : By p) (hg : g < 256) : p &&& 255 = nI g ↔ p = (nI g).toInt8.toInt32 := by
  have e := g255 hg
  refine ⟨fun h => By_bits hp (By_8 _) (fun i _ => by rw [h, e]), fun h => by rw [h, e]⟩
theorem fB_By {b : Bt} (h : Bys b) (j : Nat) : By (fB b j) := by
  unfold fB
  rw [List.getD_eq_getElem?_getD]
  cases e : b[j]? with
  | none => rfl
  | some x => exact h x (List.mem_of_getElem? e)
theorem Nt_rs {n : Nat} {b : Bt} (h : NtOK n b) : rsB b = [ntC] := by
  obtain ⟨g, o, v, _, _, ⟨e, _⟩, _⟩ := h
  refine rsB_eq ?_
  rw [e]
  refine ⟨ntB_RF _ _ _, ?_⟩
  exact List.drop_eq_nil_of_le (by rw [ntB_len]; decide)
theorem m_noted {Y : Ly} {q : Nat → Nat → Nat} {nL W nB : Nat} {hp ht : Nat} {S : Nat → List Sg} {B : List Bm} {st en : Nat → Int64} {M : Mm} (hC : SC Y q nL W nB) (hM : SM q (mR M)) (hG : Geo nL W nB S) (hLM : LogM q nL W nB M st en S B hp ht) (hOK : LogOK nL S) {n g o : Nat} {Kn : Int64 → Mm → Prop} (hN : ∀ b, b ∈ BS (S nL) → NtOK n b) (hg : g < 256) (ho : o < 256) (h : ∀ M', Scr q M M' → Kn (ntV (nI g) (nI o) (BS (S nL)).reverse) M') : f_X12_noted Y (q 20 0) (nI g) (nI o) M Kn := by
  have hd := sdims hC
  have hct := Lnk_count hG hLM.2.2.2.2.2.2.2.2
  have hH := hLM.2.2.2.2.1
  obtain ⟨kh, nh⟩ := hp_k hC hH.1
  rw [← mb_BS hLM.2.2.2.2.2.2.2.2 (Nat.le_refl nL)] at h hN
  unfold f_X12_noted
  refine ⟨sk_20_0 hC, fun x2 e2 => ?_⟩
  rw [hLM.2.1] at e2
  subst e2
  refine LOOP2_inv (fun x3 M4 => ∃ i, i ≤ B.length ∧ x3 = nI i - 1 ∧ ntV (nI g) (nI o) (mb nL B).reverse = ntV (nI g) (nI o) (mb nL (B.take i)).reverse ∧ Scr q M M4) (fun x3 _ => (x3 + 1).toNatClampNeg) ?_ _ _ ⟨B.length, Nat.le_refl _, rfl, by rw [List.take_of_length_le (Nat.le_refl _)], Scr_refl _ _⟩
  rintro x3 M4 again ⟨i, hi, rfl, he, S4⟩ hag
  unfold L_X12_noted_7
  cases i with
  | zero =>
    refine ⟨fun _ => ?_, fun c => absurd (show (nI 0 - 1 : Int32) < 0 from by decide) c⟩
    have := h M4 S4
    rw [he] at this
    exact this
  | succ i =>
    rw [nI_pred]
    have hLM4 := Scr_LogM hC S4 hLM
    have hM4 := Scr_SM S4 hM
    obtain ⟨x, hx⟩ := lt_some (show i < B.length by omega)
    obtain ⟨hin, hol⟩ := m_ol hC hM4 hG hLM4 hx (Nat.le_refl nL)
    have nxt : ∀ M9, Scr q M M9 → ntV (nI g) (nI o) (mb nL (B.take (i + 1))).reverse = ntV (nI g) (nI o) (mb nL (B.take i)).reverse → f_X12_noted_90 Y (nI i) again M9 := by
      intro M9 S9 e x10 e10
      have : nI i + (-1) = nI i - 1 := by rw [Int32.sub_eq_add_neg]
      rw [this] at e10
      subst e10
      refine hag _ _ ⟨i, by omega, rfl, by rw [he, e], S9⟩ ?_
      rw [Int32.sub_add_cancel, Int32.sub_add_cancel, nI_clamp (by omega), nI_clamp (by omega)]; omega
    refine ⟨fun c => absurd c (nI_pos (by omega)), fun _ => ⟨_, sm_19 hM4, sk_20_20 hC, hin, ?_⟩⟩
    rw [hLM4.1.1, hol]
    refine ⟨fun c => nxt M4 S4 (by rw [mb_tout hx c]), fun c => m_ct hC hM4 hG hLM4 hx ?_⟩
    have hb := m_bok hOK hLM4 hx
    have hxm : mB x ∈ mb nL B := by
      unfold mb ofL
      exact List.mem_map.mpr ⟨x, List.mem_filter.mpr ⟨List.mem_of_getElem? hx, by rw [decide_eq_true_eq]; exact c⟩, rfl⟩
    have hnt := hN _ hxm
    have hrs := Nt_rs hnt
    have hl78 := Nt_len hnt hb.1
    obtain ⟨la, hla, hlaB, hrec⟩ := Bat_rec hb
    have hcn : cntB (mB x) = nI 1 := by rw [hrec.2.1, hrs]; rfl
    rw [hcn]
    refine ⟨fun z => absurd z (by decide), fun _ => m_readsB hC hM4 hG hLM4 hx ?_⟩
    intro M15 S15 r40 r42 r41
    have hLM15 := Scr_LogM hC S15 hLM4
    have hM15 := Scr_SM S15 hM4
    refine m_ft hC hM15 hG hLM15 hx ?_
    have hk0 : (rsB (mB x))[0]? = some ntC := by rw [hrs]; rfl
    refine m_rdB hC hM15 hG hLM15 hOK hx hk0 r40 r41 (by rw [rp_0]; exact r42) ?_
    intro M18 S18 t40 t41 t46 t42 t49 t51 t47 t48 t50 t52
    rw [rp_0] at t49 t51
    have hLM18 := Scr_LogM hC S18 hLM15
    have hM18 := Scr_SM S18 hM15
    have SS : Scr q M M18 := Scr_trans S4 (Scr_trans S15 S18)
    obtain ⟨v1, v2, v3, v4, v5, v6, v7, v8, v9⟩ := m_at hG hLM18 hx
    have hmN : mN x = (mB x).length := rfl
    have e66 : mI M18 (q 20 0) 49 = nI (mA x + 66) := t49
    have e69 : mI M18 (q 20 0) 51 = nI (mA x + 69) := t51
    rw [mb_tin hx c, List.reverse_append, List.reverse_singleton, List.singleton_append] at nxt he
    simp only [ntV] at nxt he
    refine ⟨_, hLM18.2.2.2.2.1.2.1, kh, ?_, ?_⟩
    · rw [e66, nh]; exact vp_in_nI (by omega) (by decide)
    rw [e66, nI_clamp (by omega), m8_fB v5 (by omega), By_eq (fB_By v6 66) hg]
    refine ⟨fun z => nxt M18 SS (by rw [if_neg (fun w => z w.1)]), fun z => ⟨_, hLM18.2.2.2.2.1.2.1, kh, ?_, ?_⟩⟩
    · rw [nI_1, nh]; exact vp_in_nI (by omega) (by decide)
    rw [show nI (mA x + 66) + 1 = nI (mA x + 67) from nI_1 _, nI_clamp (by omega), m8_fB v5 (by omega), By_eq (fB_By v6 67) ho]
    refine ⟨fun z2 => nxt M18 SS (by rw [if_neg (fun w => z2 w.2)]), fun z2 => ⟨_, hLM18.2.2.2.2.1.2.1, ?_⟩⟩
    rw [e69]
    refine s_number (n := 8) kh (by decide) (by omega) (by omega) ?_
    rw [mo_fB v5 (by simp) (by omega)]
    have := h M18 SS
    rw [he, if_pos ⟨z, z2⟩] at this
    exact this
/-! bits of a group -/
theorem m_groupL {Y : Ly} {q : Nat → Nat → Nat} {nL W nB : Nat} {M : Mm} {G : GSt} {g n : Nat} {w : Int32} {Kn : Int32 → Mm → Prop} (hC : SC Y q nL W nB) (hM : SM q (mR M)) (hGM : GM q M G) (hGI : GI n G) (hg : g < 8) (h : Kn (nI (if w = 2 then gM G g else gJ G g)) M) : ∃ n, LOOP2 (L_X12_group_105 Y (q 20 0) (nI g) w Kn M) n 0 7 := by
  obtain ⟨i1, i2, i3, i4, i5, i6, i7, i8⟩ := hGI.2.2 g hg
  obtain ⟨t, et⟩ : ∃ t, t = if w = 2 then gM G g else gJ G g := ⟨_, rfl⟩
  rw [← et] at h
  have t256 : t < 256 := by rw [et]; split <;> assumption
  have full : mskF (fun j => t.testBit (0 + j)) (8 - 0) = t := t_ext (mskF_lt _ 8 (Nat.le_refl _)) t256 (fun k hk => by rw [mskF_t]; simp [hk])
  refine LOOP2_inv (fun x10 x11 => ∃ i, i ≤ 8 ∧ x11 = nI i - 1 ∧ x10 = nI (mskF (fun j => t.testBit (i + j)) (8 - i))) (fun _ x11 => (x11 + 1).toNatClampNeg) ?_ _ _ ⟨8, by omega, rfl, rfl⟩
  rintro x10 x11 again ⟨i, hi, rfl, rfl⟩ hag
  unfold L_X12_group_105 f_X12_group_155 f_X12_group_159 f_X12_group_160
  cases i with
  | zero =>
    refine ⟨fun _ => by rw [full]; exact h, fun c => absurd (show (nI 0 - 1 : Int32) < 0 from by decide) c⟩
  | succ i =>
    rw [nI_pred, e88a]
    have nxt : ∀ y17, y17 = nI (if t.testBit i = true then 1 else 0) → f_X12_group_175 Y (nI (mskF (fun j => t.testBit (i + 1 + j)) (8 - (i + 1)))) (nI i) again y17 := by
      intro y17 e17 x18 e18 x19 e19
      rw [e17, show (2 : Int32) = nI 2 from rfl, pk_mul, nI_add, ← mskF_step (fun j => t.testBit j) i 8 (by omega)] at e18
      have : nI i + (-1) = nI i - 1 := by rw [Int32.sub_eq_add_neg]
      rw [this] at e19
      subst e18 e19
      refine hag _ _ ⟨i, by omega, rfl, rfl⟩ ?_
      rw [Int32.sub_add_cancel, Int32.sub_add_cancel, nI_clamp (by omega), nI_clamp (by omega)]; omega
    have n0 : ¬ t.testBit i = true → ((0 : Int32) = 0 → f_X12_group_175 Y (nI (mskF (fun j => t.testBit (i + 1 + j)) (8 - (i + 1)))) (nI i) again 0) ∧ (¬ (0 : Int32) = 0 → f_X12_group_175 Y (nI (mskF (fun j => t.testBit (i + 1 + j)) (8 - (i + 1)))) (nI i) again 1) := fun z => ⟨fun _ => nxt 0 (by rw [if_neg z]; rfl), fun w => absurd rfl w⟩
    have n1 : t.testBit i = true → ((1 : Int32) = 0 → f_X12_group_175 Y (nI (mskF (fun j => t.testBit (i + 1 + j)) (8 - (i + 1)))) (nI i) again 0) ∧ (¬ (1 : Int32) = 0 → f_X12_group_175 Y (nI (mskF (fun j => t.testBit (i + 1 + j)) (8 - (i + 1)))) (nI i) again 1) := fun z => ⟨fun w => absurd w (by decide), fun _ => nxt 1 (by rw [if_pos z]; rfl)⟩
    refine ⟨fun c => absurd c (nI_pos (by omega)), fun _ => ⟨_, sm_37 hM, sk_20_38 hC, by rw [sn_20_38 hC]; exact vp_in_nI (by omega) (by decide), ?_⟩⟩
    rw [AB_at hGM.2.2.2.1 hg (by omega), bt1_0]
    have tj : ¬ w = 2 → t = gJ G g := fun z => by rw [et, if_neg z]
    have tm2 : w = 2 → t = gM G g := fun z => by rw [et, if_pos z]
    refine ⟨fun z => n0 ?_, fun z => ⟨fun z2 => n1 (by rw [tm2 z2]; exact Decidable.not_not.mp z), fun z2 => ⟨_, sm_34 hM, sk_20_35 hC, by rw [sn_20_35 hC]; exact vp_in_nI hg (by decide), ?_⟩⟩⟩
    · by_cases w2 : w = 2
      · rw [tm2 w2]; exact z
      · rw [tj w2]; exact fun y => z (i5 i (by omega) y)
    rw [AR_at hGM.2.2.1 hg (by decide), nIeq (x := 2) (b := 2) rfl (by omega) (by omega)]
    refine ⟨fun z3 => n1 (by rw [tj z2, (i7 z3).1]; exact Decidable.not_not.mp z), fun z3 => ⟨_, sm_38 hM, sk_20_39 hC, by rw [sn_20_39 hC]; exact vp_in_nI (by omega) (by decide), ?_⟩⟩
    rw [AB_at hGM.2.2.2.2.1 hg (by omega), bt1_0]
    exact ⟨fun z4 => n0 (by rw [tj z2]; exact z4), fun z4 => n1 (by rw [tj z2]; exact Decidable.not_not.mp z4)⟩
/-! joins, leaves, beats and commits of the model, with the power there -/
theorem m_join20 {Y : Ly} {q : Nat → Nat → Nat} {nL W nB : Nat} {M : Mm} {st : Nat → Int64} {L : LSt} {G : GSt} {g k n : Nat} {Kn : Int32 → Mm → Prop} (hC : SC Y q nL W nB) (hM : SM q (mR M)) (hG : Geo nL W nB (lS L)) (hML : ML q nL W nB M st L) (hD0 : lD L = 0) (hlf : LfOK (lL L)) (hGM : GM q M G) (hGI : GI n G) (hn : n < 2 ^ 30) (hg : g < 8) (hk : k < 8)
    (h : ∀ G' L' M', SetR nL W nB g (joinG G g k) L G' L' → GM q M' G' → ML q nL W nB M' st L' → Ef q PG (cd q M 0) M' → Kn (if lD L' = 0 then (if gS G' g = 2 then nI (gN G' g) else -1) else -3) M') : f_X12_join_20 Y (q 20 0) (nI g) (nI k) Kn 1 M := by
  have vin : ∀ b, yN Y b = 8 → vp_in (nI g) (yN Y b) := fun b hb => by rw [hb]; exact vp_in_nI hg (by decide)
  have vb : ∀ b, yN Y b = 64 → vp_in (nI (8 * g + k)) (yN Y b) := fun b hb => by rw [hb]; exact vp_in_nI (by omega) (by decide)
  have hgc : (nI g).toNatClampNeg = g := nI_clamp (by omega)
  have hkc : (nI (8 * g + k)).toNatClampNeg = 8 * g + k := nI_clamp (by omega)
  obtain ⟨p, b', c, d, ee, f, i, j⟩ := hGI.2.2 g hg
  have hGI2 := GI_join hGI hg hk
  unfold f_X12_join_20
  refine ⟨sk_20_0 hC, m_goes hC (fun _ _ => ⟨fun _ => ?_, fun z => absurd z (by decide)⟩) (fun _ z => absurd (hML.2.2.2.trans hD0) z) (fun z => absurd z (by decide))⟩
  have E0 := cd_E hC M 0
  have hM0 : SM q (mR (cd q M 0)) := Ef_SM E0.1 hM
  have gm0 : GM q (cd q M 0) G := GM_ef hC hGM E0.1 (by unfold P0; omega) (fun b j h1 h2 => by unfold P0; omega)
  have ml0 : ML q nL W nB (cd q M 0) st L := ML_ef hML E0 (fun a b j z => by unfold PLg at z; unfold P0; omega) (by unfold P0; omega) (by unfold P0; omega) (by unfold P0; omega)
  generalize cd q M 0 = N at *
  clear E0 hM hML hGM
  rw [e88a]
  refine ⟨_, sm_37 hM0, sk_20_38 hC, vb _ (sn_20_38 hC), bz_1, fun M13 e13 => ⟨q 20 35, by rw [e13]; exact sm_34 hM0, sk_20_35 hC, vin _ (sn_20_35 hC), ?_⟩⟩
  rw [hkc] at e13
  have ot : ∀ j, j < 8 → j ≠ k → (gM G g ||| 2 ^ k).testBit j = (gM G g).testBit j := fun j hj hne => by
    have := bo_t ⟨gM G g, c⟩ ⟨k, hk⟩ ⟨j, hj⟩
    dsimp only at this
    rw [this, if_neg hne]
  have kt : ∀ a, a < 256 → (1 : Int32) = bt1 (a ||| 2 ^ k) k := fun a ha => by
    have := bo_t ⟨a, ha⟩ ⟨k, hk⟩ ⟨k, hk⟩
    dsimp only at this
    unfold bt1; rw [this, if_pos rfl]; rfl
  have G13 := GM_38 (v := gM G g ||| 2 ^ k) hC gm0 hg hk (kt _ c) ot e13
  have E13 : EfH q Pg N M13 := EfH_sI hC e13 ⟨rfl, by omega, by omega⟩
  rw [hgc, G13.2.2.1 g hg, show gS (gN G, gS G, m1 (gM G) g (gM G g ||| 2 ^ k), gJ G, gL G, gH G, gT G) g = gS G g from rfl, nIeq (x := 1) (b := 1) rfl (by omega) (by omega)]
  have rest : ∀ G1 M17, G1 = memG (if gS G g = 1 then G else mixG G g) g (gM G g ||| 2 ^ k) → gJ G1 g < 256 → GM q M17 G1 → EfH q Pg N M17 → f_X12_join_55 Y (q 20 0) (nI g) (nI k) Kn M17 := by
    intro G1 M17 eG hj1 gm17 E17
    have hM17 := Ef_SM E17.1 hM0
    unfold f_X12_join_55 f_X12_join_119
    rw [e88a]
    refine ⟨_, sm_38 hM17, sk_20_39 hC, vb _ (sn_20_39 hC), bz_1, fun M22 e22 => ⟨q 20 40, by rw [e22]; exact sm_39 hM17, sk_20_40 hC, vb _ (sn_20_40 hC), fun M26 e26 => ?_⟩⟩
    rw [hkc] at e22 e26
    have G22 := GM_39 (v := gJ G1 g ||| 2 ^ k) hC gm17 hg hk (kt _ hj1) (fun j hj hne => by
      have := bo_t ⟨gJ G1 g, hj1⟩ ⟨k, hk⟩ ⟨j, hj⟩
      dsimp only at this
      rw [this, if_neg hne]) e22
    rw [G22.1] at e26
    have G26 := GM_40 hC G22 e26
    have E26 : EfH q Pg N M26 := EfH_trans E17 (EfH_trans (EfH_sI hC e22 ⟨rfl, by omega, by omega⟩) (EfH_sI hC e26 ⟨rfl, by omega, by omega⟩))
    have eJ : joinG G g k = (gN G1, gS G1, gM G1, m1 (gJ G1) g (gJ G1 g ||| 2 ^ k), gL G1, m1 (gH G1) (8 * g + k) (gT G1), gT G1) := by
      rw [eG]; unfold joinG
      by_cases z : gS G g = 1
      · rw [if_pos z]; rfl
      · rw [if_neg z]; rfl
    rw [eJ] at hGI2 h
    refine m_done hC (Ef_SM E26.1 hM0) hG (Pg_ML ml0 E26) hD0 hlf G26 hGI2 hn hg ?_
    intro G' L' M27 hs gm' ml' ef'
    have key := h G' L' M27 hs gm' ml' (Ef_trans (Pg_PG E26) ef')
    have hM27 := Ef_SM (Ef_trans (Pg_PG E26) ef') hM0
    have s2 := ((SetR_GI hs hGI2).2.2 g hg).2.1
    rw [ml'.2.2.2]
    refine ⟨fun z => ⟨_, sm_34 hM27, sk_20_35 hC, vin _ (sn_20_35 hC), ?_⟩, fun z => by rwa [if_neg z] at key⟩
    rw [if_pos z] at key
    rw [hgc, gm'.2.2.1 g hg, nIeq (x := 2) (b := 2) rfl (by omega) (by omega)]
    refine ⟨fun w => by rwa [if_neg w] at key, fun w => ⟨_, sm_35 hM27, sk_20_36 hC, vin _ (sn_20_36 hC), ?_⟩⟩
    rw [if_pos w] at key
    rw [gm'.2.1 g hg]; exact key
  refine ⟨fun z => rest (memG G g (gM G g ||| 2 ^ k)) M13 (by rw [if_pos z]) d G13 E13, fun z => m_mixes hC (Ef_SM E13.1 hM0) G13 hg (fun M' E' G' => rest (mixG (memG G g (gM G g ||| 2 ^ k)) g) M' (by rw [if_neg z]; rfl) ?_ G' (EfH_trans E13 E'))⟩
  show m1 (gJ G) g 0 g < 256
  rw [m1_at]; decide
