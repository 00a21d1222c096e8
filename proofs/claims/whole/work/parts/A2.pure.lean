/-! groups behind recovery -/
def gnv (v : Int64) : Nat := v.toInt.toNat
def recK (G : GSt) (v : Nat → Nat) (k : Nat) : GSt := (fun g => if g < k then v g else gN G g, fun g => if g < k then 0 else gS G g, fun g => if g < k then 0 else gM G g, fun g => if g < k then 0 else gJ G g, gL G, gH G, gT G)
theorem m1_if {α : Type} (a b : Nat → α) (k : Nat) : m1 (fun g => if g < k then a g else b g) k (a k) = fun g => if g < k + 1 then a g else b g := by
  funext g
  simp only [m1]
  by_cases e : g = k
  · rw [if_pos e, if_pos (by omega), e]
  · rw [if_neg e]
    by_cases z : g < k
    · rw [if_pos z, if_pos (by omega)]
    · rw [if_neg z, if_neg (by omega)]
theorem recK_s (G : GSt) (v : Nat → Nat) (k : Nat) : recK G v (k + 1) = (m1 (gN (recK G v k)) k (v k), gS (empG (recK G v k) k), gM (empG (recK G v k) k), gJ (empG (recK G v k) k), gL G, gH G, gT G) := by
  unfold recK empG
  simp only [gN, gS, gM, gJ]
  rw [m1_if v, m1_if (fun _ => 0), m1_if (fun _ => 0), m1_if (fun _ => 0)]
theorem recK_0 (G : GSt) (v : Nat → Nat) : recK G v 0 = G := by
  unfold recK; simp [gN, gS, gM, gJ, gL, gH, gT]
theorem GI_rec {n : Nat} {G : GSt} {v : Nat → Nat} (h : GI n G) (hv : ∀ g, g < 8 → v g ≤ n) : GI n (recK G v 8) := by
  refine ⟨h.1, h.2.1, fun g hg => ?_⟩
  obtain ⟨a, b, c, d, e, f, i, j⟩ := h.2.2 g hg
  have e0 : gN (recK G v 8) g = v g := by show (if g < 8 then v g else gN G g) = _; rw [if_pos hg]
  have e1 : gS (recK G v 8) g = 0 := by show (if g < 8 then 0 else gS G g) = _; rw [if_pos hg]
  have e2 : gM (recK G v 8) g = 0 := by show (if g < 8 then 0 else gM G g) = _; rw [if_pos hg]
  have e3 : gJ (recK G v 8) g = 0 := by show (if g < 8 then 0 else gJ G g) = _; rw [if_pos hg]
  rw [e0, e1, e2, e3]
  exact ⟨hv g hg, by decide, by decide, by decide, sub8_0 _, f, fun z => absurd z (by decide), fun _ => ⟨rfl, rfl⟩⟩
theorem drop_get (b : Bt) (i : Nat) : fB b (61 + i) = (b.drop 61).getD i 0 := by
  unfold fB
  rw [List.getD_eq_getElem?_getD, List.getD_eq_getElem?_getD, List.getElem?_drop]
theorem Nt_get {n : Nat} {b : Bt} (h : NtOK n b) : ∃ g o v, g < 8 ∧ (o < 8 ∨ o = 255) ∧ fB b 66 = (nI g).toInt8.toInt32 ∧ fB b 67 = (nI o).toInt8.toInt32 ∧ beS (fB b) 69 8 = v ∧ (o = 255 → ∃ k, k ≤ n ∧ v = lN k) := by
  obtain ⟨g, o, v, h1, h2, ⟨e, _⟩, h3⟩ := h
  obtain ⟨e1, e2, e3⟩ := vn1
  have e0 : ntB (nI g) (nI o) v = [32, 0, 0, 0, 4, (nI g).toInt8.toInt32, (nI o).toInt8.toInt32, 16] ++ (pb v 8 ++ [0]) := by
    unfold ntB
    rw [e1, e2, e3, pb_0 3 (by omega)]; rfl
  rw [e0] at e
  refine ⟨g, o, v, h1, h2, ?_, ?_, ?_, h3⟩
  · rw [show (66 : Nat) = 61 + 5 from rfl, drop_get, e]; rfl
  · rw [show (67 : Nat) = 61 + 6 from rfl, drop_get, e]; rfl
  · refine beS_pb8 (Lie_of (fun j hj => ?_))
    rw [pb_len] at hj
    rw [show 69 + j = 61 + (8 + j) by omega, drop_get, e, List.getD_eq_getElem?_getD, List.getElem?_append_right (by simp), List.getD_eq_getElem?_getD]
    rw [List.getElem?_append_left (by rw [pb_len]; simp; omega)]
    congr 2
    simp
theorem ntV_255 {n g : Nat} : ∀ {xs : List Bt}, (∀ b, b ∈ xs → NtOK n b) → ntV (nI g) 255 xs = -1 ∨ ∃ k, k ≤ n ∧ ntV (nI g) 255 xs = lN k
  | [], _ => Or.inl rfl
  | b :: xs, h => by
    simp only [ntV]
    by_cases c : fB b 66 = (nI g).toInt8.toInt32 ∧ fB b 67 = (255 : Int32).toInt8.toInt32
    · rw [if_pos c]
      obtain ⟨g', o, v, h1, h2, h3, h4, h5, h6⟩ := Nt_get (h b List.mem_cons_self)
      have ho : o = 255 := by
        rcases h2 with z | z
        · rw [h4] at c
          have : ∀ k : Fin 8, ¬ (nI k.val).toInt8.toInt32 = (255 : Int32).toInt8.toInt32 := by decide
          exact absurd c.2 (this ⟨o, z⟩)
        · exact z
      obtain ⟨k, hk, e⟩ := h6 ho
      exact Or.inr ⟨k, hk, by rw [h5, e]⟩
    · rw [if_neg c]
      exact ntV_255 (fun b hb => h b (List.mem_cons_of_mem _ hb))
theorem gnv_ok {n : Nat} {v : Int64} (h : v = -1 ∨ ∃ k, k ≤ n ∧ v = lN k) (hn : n < 2 ^ 31) : gnv v ≤ n ∧ (if v < 0 then 0 else v).toInt32 = nI (gnv v) ∧ (if 0 ≤ v then v.toInt32 else 0) = nI (gnv v) := by
  rcases h with rfl | ⟨k, hk, rfl⟩
  · exact ⟨Nat.le_trans (show gnv (-1) ≤ 0 by decide) (Nat.zero_le _), by decide, by decide⟩
  · have e : gnv (lN k) = k := by unfold gnv; rw [pk_lT (by omega)]; rfl
    have h0 : 0 ≤ lN k := by rw [show (0 : Int64) = lN 0 from rfl, pk_lLE (by omega) (by omega)]; omega
    rw [e, if_neg (Int64.not_lt.mpr h0), if_pos h0, lN_i]
    exact ⟨hk, rfl, rfl⟩
theorem c_gload {Y : Ly} {q : Nat → Nat → Nat} {nL W nB : Nat} {M : Mm} {st : Nat → Int64} {L : LSt} {G : GSt} {n : Nat} {Kn : Mm → Prop} (hC : SC Y q nL W nB) (hR : SR q nL (mR M)) (hG : Geo nL W nB (lS L)) (hLC : LogC q nL W nB M st (lE L) (lS L)) (hD : DkA nL (mI M (q 0 11)) st (lE L) (lS L)) (hN : ∀ b, b ∈ BS (lS L nL) → NtOK n b) (hn : n < 2 ^ 31) (hGC : GC q M G)
    (h : ∀ M', Fr q Fg M M' → GC q M' (recK G (fun g => gnv (ntV (nI g) 255 (BS (lS L nL)).reverse)) 8) → Kn M') : f_X7_load Y (q 0 26) M Kn := by
  obtain ⟨v, ev⟩ : ∃ v, v = fun g => gnv (ntV (nI g) 255 (BS (lS L nL)).reverse) := ⟨_, rfl⟩
  rw [← ev] at h
  unfold f_X7_load
  refine LOOP2_inv (fun x1 M2 => ∃ k, k ≤ 8 ∧ x1 = nI k ∧ Fr q Fg M M2 ∧ GC q M2 (recK G v k)) (fun x1 _ => 8 - x1.toNatClampNeg) ?_ _ _ ⟨0, by omega, rfl, Fr_refl _ _ _, by rw [recK_0]; exact hGC⟩
  rintro x1 M2 again ⟨k, hk, rfl, F, gc⟩ hag
  have hR2 : SR q nL (mR M2) := by rw [F.2]; exact hR
  unfold L_X7_load_2
  rw [show (8 : Int32) = nI 8 from rfl, nI_cmp (by omega) (by omega)]
  refine ⟨fun c => by rw [show k = 8 by omega] at gc; exact h M2 F gc, fun c => ⟨sk_0_26 hC, c_empty hC hR2 gc (by omega) (fun M4 F4 J4 G4 => ?_)⟩⟩
  have hR4 : SR q nL (mR M4) := by rw [F4.2]; exact hR2
  have FF := Fr_trans F F4
  refine ⟨_, sr_0_26_1 hR4, c_latest hC hR4 hG (LogC_fr hC hLC FF (by unfold Fg; omega) (fun l c => by unfold Fg; omega)) (by rw [Fg_11 hC FF]; exact hD) hN ⟨sk_0_27 hC, by rw [sn_0_27 hC]; exact vp_in_nI (by omega) (by decide), fun M11 e11 x12 e12 => ?_⟩⟩
  have hv := gnv_ok (ntV_255 (g := k) (xs := (BS (lS L nL)).reverse) (fun b hb => hN b (List.mem_reverse.mp hb))) hn
  rw [nI_clamp (by omega), hv.2.1] at e11
  rw [nI_1] at e12
  subst e12
  have G11 := GC_27 hC G4 e11
  refine hag _ _ ⟨k + 1, by omega, rfl, Fr_trans FF (Fr_e e11 ⟨rfl, by omega⟩), ?_⟩ ?_
  · have hvk : v k = gnv (ntV (nI k) 255 (BS (lS L nL)).reverse) := by rw [ev]
    rw [recK_s, hvk]; exact G11
  · rw [nI_clamp (by omega), nI_clamp (by omega)]; omega
theorem m_gload {Y : Ly} {q : Nat → Nat → Nat} {nL W nB : Nat} {M : Mm} {st : Nat → Int64} {L : LSt} {G : GSt} {n : Nat} {Kn : Int32 → Mm → Prop} (hC : SC Y q nL W nB) (hM : SM q (mR M)) (hI : IL nL W nB n st L) (hn : n < 2 ^ 31) (hML : ML q nL W nB M st L) (hGM : GM q M G)
    (h : ∀ M', EfH q (fun a b j => P4 a b j ∨ Pg a b j) M M' → GM q M' (recK G (fun g => gnv (ntV (nI g) 255 (BS (lS L nL)).reverse)) 8) → Kn (nI (sm (fun l => (BS (lS L l)).length) (nL + 1))) M') : ∃ m, LOOP2 (L_X12_recover_25 Y (q 20 0) Kn) m 0 M := by
  obtain ⟨hG, hOK, hE, hN, hP⟩ := hI
  obtain ⟨⟨B, hp, ht, hLM⟩, w6, w7, w5⟩ := hML
  obtain ⟨v, ev⟩ : ∃ v, v = fun g => gnv (ntV (nI g) 255 (BS (lS L nL)).reverse) := ⟨_, rfl⟩
  rw [← ev] at h
  refine LOOP2_inv (fun x1 M2 => ∃ k, k ≤ 8 ∧ x1 = nI k ∧ EfH q (fun a b j => P4 a b j ∨ Pg a b j) M M2 ∧ GM q M2 (recK G v k)) (fun x1 _ => 8 - x1.toNatClampNeg) ?_ _ _ ⟨0, by omega, rfl, EfH_refl _ _ _, by rw [recK_0]; exact hGM⟩
  rintro x1 M2 again ⟨k, hk, rfl, F, gm⟩ hag
  have hM2 := Ef_SM F.1 hM
  have hLM2 := LogM_ef hLM F (fun a b j z => by unfold PLg at z; unfold P4 Pg; omega)
  unfold L_X12_recover_25
  rw [show (8 : Int32) = nI 8 from rfl, nI_cmp (by omega) (by omega)]
  refine ⟨fun c => ?_, fun c => m_empties hC hM2 gm (by omega) (fun M10 E10 G10 => ?_)⟩
  · rw [show k = 8 by omega] at gm
    rw [hLM2.2.1, Lnk_len hLM.2.2.2.2.2.2.2.2]
    exact h M2 F gm
  have hM10 := Ef_SM E10.1 hM2
  have hLM10 := LogM_ef hLM2 E10 (fun a b j z => by unfold PLg at z; unfold Pg; omega)
  refine m_noted (o := 255) hC hM10 hG hLM10 hOK hN (by omega) (by decide) (fun M11 S11 => ?_)
  have E11 := EfH_Scr hC S11
  have hM11 := Scr_SM S11 hM10
  have G11 : GM q M11 (empG (recK G v k) k) := GM_ef hC G10 E11.1 (by unfold P4; omega) (fun b j h1 h2 => by unfold P4; omega)
  have hv := gnv_ok (ntV_255 (g := k) (xs := (BS (lS L nL)).reverse) (fun b hb => hN b (List.mem_reverse.mp hb))) hn
  have nxt : ∀ y14, y14 = nI (gnv (ntV (nI k) 255 (BS (lS L nL)).reverse)) → f_X12_recover_62 Y (nI k) again M11 (q 20 36) y14 := by
    intro y14 e14
    unfold f_X12_recover_62
    refine ⟨sk_20_36 hC, by rw [sn_20_36 hC]; exact vp_in_nI (by omega) (by decide), fun M17 e17 x18 e18 => ?_⟩
    rw [nI_clamp (by omega), e14] at e17
    rw [nI_1] at e18
    subst e18
    have G17 := GM_36 hC G11 e17
    refine hag _ _ ⟨k + 1, by omega, rfl, EfH_trans F (EfH_trans (EfH_mono E10 (fun a b j z => Or.inr z)) (EfH_trans (EfH_mono E11 (fun a b j z => Or.inl z)) (EfH_sI hC e17 (Or.inr ⟨rfl, by omega, by omega⟩)))), ?_⟩ ?_
    · have hvk : v k = gnv (ntV (nI k) 255 (BS (lS L nL)).reverse) := by rw [ev]
      rw [recK_s, hvk]; exact G17
    · rw [nI_clamp (by omega), nI_clamp (by omega)]; omega
  have h255 : (nI 255 : Int32) = 255 := rfl
  rw [h255]
  refine ⟨_, sm_35 hM11, fun z => nxt _ ?_, fun z => nxt _ ?_⟩
  · have := hv.2.2; rwa [if_pos z] at this
  · have := hv.2.2; rwa [if_neg z] at this
/-! free blocks -/
def frN (lo W : Nat) (F : List Nat) : Nat → Nat
  | 0 => 0
  | b + 1 => frN lo W F b + (if lo ≤ b ∧ cv W F b = 0 then 1 else 0)
theorem frN_le (lo W : Nat) (F : List Nat) : ∀ b, frN lo W F b ≤ b
  | 0 => Nat.le_refl _
  | b + 1 => by have := frN_le lo W F b; simp only [frN]; split <;> omega
theorem frN_lo (lo W : Nat) (F : List Nat) : ∀ b, b ≤ lo → frN lo W F b = 0
  | 0, _ => rfl
  | b + 1, h => by simp only [frN]; rw [frN_lo lo W F b (by omega), if_neg (by omega)]
theorem c_free {Y : Ly} {q : Nat → Nat → Nat} {nL W nB : Nat} {M : Mm} {S : Nat → List Sg} {st en : Nat → Int64} {Kn : Int32 → Mm → Prop} (hC : SC Y q nL W nB) (hR : SR q nL (mR M)) (hG : Geo nL W nB S) (hLC : LogC q nL W nB M st en S)
    (h : ∀ M', Fr q (F1 15) M M' → Kn (nI (frN (nL + 2) W (FFs S (nL + 1)) nB)) M') : f_X9_countFree Y (q 0 13) M Kn := by
  have hd := sdims hC
  unfold f_X9_countFree
  refine ⟨sk_0_13 hC, c_countUses hC hR hLC.1 (fun l hl => (hLC.2.2 l hl).2.1) (fun l hl => (hG.1 l hl).1) (fun l hl s hs => ((hG.1 l hl).2 s hs).2.1) (fun b => Nat.le_trans (hG.2 b) (by decide)) (fun u hu => ?_)⟩
  have h3 : mI (sI M (q 0 15) u) (q 0 13) 3 = nI (nL + 2) := by rw [I_ne hC _ _ (by omega)]; exact hLC.2.1
  rw [h3]
  intro x3 e3
  subst e3
  have F : Fr q (F1 15) M (sI M (q 0 15) u) := Fr_sI _ _ _ _ ⟨rfl, rfl⟩
  refine LOOP2_inv (fun x4 x5 => ∃ b, nL + 2 ≤ b ∧ b ≤ nB ∧ x5 = nI b ∧ x4 = nI (frN (nL + 2) W (FFs S (nL + 1)) b)) (fun _ x5 => nB - x5.toNatClampNeg) ?_ _ _ ⟨nL + 2, Nat.le_refl _, by omega, rfl, by rw [frN_lo _ _ _ _ (Nat.le_refl _)]; rfl⟩
  rintro x4 x5 again ⟨b, hb1, hb2, rfl, rfl⟩ hag
  unfold L_X9_countFree_11
  refine ⟨_, sr_0_13_4 hR, sk_0_15 hC, ?_⟩
  rw [sn_0_15 hC, nI_cmp (by omega) (by omega)]
  refine ⟨fun c => by rw [show b = nB by omega]; exact h _ F, fun c => ⟨_, sr_0_13_4 hR, sk_0_15 hC, by rw [sn_0_15 hC]; exact vp_in_nI (by omega) (by omega), ?_⟩⟩
  have nxt : ∀ x12, x12 = nI (frN (nL + 2) W (FFs S (nL + 1)) (b + 1)) → f_X9_countFree_32 Y (nI b) again x12 := by
    intro x12 e12 x13 e13
    rw [nI_1] at e13
    subst e13
    refine hag _ _ ⟨b + 1, by omega, by omega, rfl, e12⟩ ?_
    rw [nI_clamp (by omega), nI_clamp (by omega)]; omega
  have hcv := hG.2 b
  rw [mI_sI_self, nI_clamp (by omega), hu b (by omega), nIeq (x := 0) (b := 0) rfl (by omega) (by omega)]
  refine ⟨fun z => nxt _ ?_, fun z x15 e15 => nxt _ ?_⟩
  · simp only [frN]; rw [if_neg (fun w => z w.2)]; rfl
  · rw [e15, nI_1]; simp only [frN]; rw [if_pos ⟨hb1, z⟩]
theorem m_freeL {Y : Ly} {q : Nat → Nat → Nat} {nL W nB : Nat} {M : Mm} {F : List Nat} {Kn : Int32 → Mm → Prop} (hC : SC Y q nL W nB) (hM : SM q (mR M)) (hNB : mI M (q 20 0) 3 = nI nB) (hU : HdR (mI M (q 20 32)) nL W nB F) (h : Kn (nI (frN (nL + 2) W F nB)) M) : ∃ m, LOOP2 (L_X12_free_33 Y (q 20 0) Kn M) m 0 0 := by
  have hd := sdims hC
  refine LOOP2_inv (fun x6 x7 => ∃ b, b ≤ nB ∧ x7 = nI b ∧ x6 = nI (frN (nL + 2) W F b)) (fun _ x7 => nB - x7.toNatClampNeg) ?_ _ _ ⟨0, by omega, rfl, rfl⟩
  rintro x6 x7 again ⟨b, hb, rfl, rfl⟩ hag
  unfold L_X12_free_33
  rw [hNB, nI_cmp (by omega) (by omega)]
  refine ⟨fun c => by rw [show b = nB by omega]; exact h, fun c => ⟨_, sm_31 hM, sk_20_32 hC, by rw [sn_20_32 hC]; exact vp_in_nI (by omega) (by decide), ?_⟩⟩
  have nxt : ∀ y12, y12 = nI (if nL + 2 ≤ b ∧ cv W F b = 0 then 1 else 0) → f_X12_free_56 Y (nI (frN (nL + 2) W F b)) (nI b) again y12 := by
    intro y12 e12 x13 e13 x14 e14
    rw [e12, nI_add] at e13
    rw [nI_1] at e14
    subst e13 e14
    refine hag _ _ ⟨b + 1, by omega, rfl, rfl⟩ ?_
    rw [nI_clamp (by omega), nI_clamp (by omega)]; omega
  rw [nI_clamp (by omega), hU b (by omega)]
  by_cases z : b < nL + 2 ∨ 0 < cv W F b
  · rw [if_pos z]
    exact ⟨fun w => absurd w (by decide), fun _ => nxt 0 (by rw [if_neg (by omega)]; rfl)⟩
  · rw [if_neg z]
    exact ⟨fun _ => nxt 1 (by rw [if_pos (by omega)]; rfl), fun w => absurd rfl w⟩
