/-! code, ticks, shares and notes of the model -/
def cd (q : Nat → Nat → Nat) (M : Mm) (v : Int32) : Mm := sI M (q 20 0) (m1 (mI M (q 20 0)) 0 v)
theorem m_goes {Y : Ly} {q : Nat → Nat → Nat} {nL W nB : Nat} {M : Mm} {y : Int32} {Kn : Int32 → Mm → Prop} (hC : SC Y q nL W nB) (h1 : ¬ y = 0 → mI M (q 20 0) 5 = 0 → Kn 1 (cd q M 0)) (h2 : ¬ y = 0 → ¬ mI M (q 20 0) 5 = 0 → Kn 0 (cd q M 2)) (h0 : y = 0 → Kn 0 (cd q M 1)) : f_X12_goes Y (q 20 0) y M Kn := by
  unfold f_X12_goes f_X12_goes_21 f_X12_goes_36
  have e : ∀ v, mI (cd q M v) (q 20 0) 0 = v := fun v => by unfold cd; rw [mI_sI_self, m1_at]
  refine ⟨fun c => ⟨sk_20_0 hC, fun c2 => ⟨sk_20_0 hC, fun M3 e3 => ?_⟩, fun c2 => ⟨sk_20_0 hC, fun M3 e3 => ?_⟩⟩, fun c => ⟨sk_20_0 hC, fun M3 e3 => ?_⟩⟩
  · have e3' : M3 = cd q M 0 := e3
    rw [e3', e]
    exact ⟨fun z => absurd rfl z, fun _ => ⟨bz_1, h1 c c2⟩⟩
  · have e3' : M3 = cd q M 2 := e3
    rw [e3', e]
    exact ⟨fun _ => ⟨bz_0, h2 c c2⟩, fun z => absurd z (by decide)⟩
  · have e3' : M3 = cd q M 1 := e3
    rw [e3', e]
    exact ⟨fun _ => ⟨bz_0, h0 c⟩, fun z => absurd z (by decide)⟩
def P0 : Nat → Nat → Nat → Prop := fun a b j => a = 20 ∧ b = 0 ∧ j = 0
theorem cd_E {Y : Ly} {q : Nat → Nat → Nat} {nL W nB : Nat} (hC : SC Y q nL W nB) (M : Mm) (v : Int32) : EfH q P0 M (cd q M v) := EfH_sI hC rfl ⟨rfl, rfl, rfl⟩
def PT : Nat → Nat → Nat → Prop := fun a b j => PG a b j ∨ (a = 20 ∧ b = 0 ∧ j = 4)
theorem GM_tm {Y : Ly} {q : Nat → Nat → Nat} {nL W nB : Nat} {M M' : Mm} {G : GSt} {t : Nat} (hC : SC Y q nL W nB) (h : GM q M G) (e : M' = sI M (q 20 0) (m1 (mI M (q 20 0)) 4 (nI t))) : GM q M' (timG G t) := by
  obtain ⟨h0, h1, h2, h3, h4, h5, h6⟩ := h
  subst e
  refine ⟨?_, ?_, ?_, ?_, ?_, ?_, ?_⟩
  · rw [mI_sI_self, m1_at]; rfl
  · rw [I_ne hC _ _ (by omega)]; exact h1
  · rw [I_ne hC _ _ (by omega)]; exact h2
  · rw [I_ne hC _ _ (by omega)]; exact h3
  · rw [I_ne hC _ _ (by omega)]; exact h4
  · rw [I_ne hC _ _ (by omega)]; exact h5
  · rw [I_ne hC _ _ (by omega)]; exact h6
theorem ML_ef {q : Nat → Nat → Nat} {nL W nB : Nat} {M M' : Mm} {st : Nat → Int64} {L : LSt} {P : Nat → Nat → Nat → Prop} (h : ML q nL W nB M st L) (E : EfH q P M M') (hP : ∀ a b j, PLg a b j → ¬ P a b j) (h5 : ¬ P 20 0 5) (h6 : ¬ P 20 0 6) (h7 : ¬ P 20 0 7) : ML q nL W nB M' st L := by
  obtain ⟨⟨B, hp, ht, hLM⟩, a, b, c⟩ := h
  exact ⟨⟨B, hp, ht, LogM_ef hLM E hP⟩, by rw [Ef_i E.1 h6]; exact a, by rw [Ef_i E.1 h7]; exact b, by rw [Ef_i E.1 h5]; exact c⟩
theorem SetR_dn {nL W nB g : Nat} {G G' : GSt} {L L' : LSt} (h : SetR nL W nB g G L G' L') (h0 : lD L = 0) : lD L' = 0 ∨ lD L' = 1 := by
  rcases h with ⟨_, _, e⟩ | ⟨_, _, ⟨_, _, e⟩ | ⟨c, r, hA, _⟩⟩
  · rw [e]; exact Or.inl h0
  · rw [e]; exact Or.inl h0
  · rcases ApR_dn hA h0 with ⟨_, e⟩ | ⟨_, e⟩ | ⟨_, e⟩
    · exact Or.inl e
    · rw [e]; exact Or.inl h0
    · exact Or.inr e
theorem m_ticksL {Y : Ly} {q : Nat → Nat → Nat} {nL W nB : Nat} {M : Mm} {st : Nat → Int64} {L : LSt} {G : GSt} {N n : Nat} {Kn : Int32 → Mm → Prop} (hC : SC Y q nL W nB) (hM : SM q (mR M)) (hML : ML q nL W nB M st L) (hD0 : lD L = 0) (hIL : IL nL W nB n st L) (hGM : GM q M G) (hGI : GI n G) (hN : N ≤ 200) (hn : n + 8000 * N < 2 ^ 30) (ht : gT G + N ≤ 100000) (hc0 : mI M (q 20 0) 0 = 0)
    (h : ∀ G' L' M', TkN nL W nB N G L G' L' → GM q M' G' → ML q nL W nB M' st L' → Ef q PT M M' → Kn (if lD L' = 0 then nI (gT G') else -3) M') : ∃ m, LOOP2 (L_X12_ticks_49 Y (q 20 0) (nI N) Kn) m 0 M := by
  have hd := sdims hC
  refine LOOP2_inv (fun x8 M9 => ∃ k G9 L9, k ≤ N ∧ x8 = nI k ∧ GM q M9 G9 ∧ ML q nL W nB M9 st L9 ∧ Ef q PT M M9 ∧ ((lD L9 = 0 ∧ gT G9 = gT G + k ∧ IL nL W nB (n + 8000 * k) st L9 ∧ GI (n + 8000 * k) G9 ∧ ∀ G' L', TkN nL W nB (N - k) G9 L9 G' L' → TkN nL W nB N G L G' L') ∨ (¬ lD L9 = 0 ∧ TkN nL W nB N G L G9 L9))) (fun x8 _ => N - x8.toNatClampNeg) ?_ _ _ ⟨0, G, L, by omega, rfl, hGM, hML, Ef_refl _ _ _, Or.inl ⟨hD0, rfl, hIL, hGI, fun _ _ z => z⟩⟩
  rintro x8 M9 again ⟨k, G9, L9, hk, rfl, gm, ml, ef, hcase⟩ hag
  have hM9 := Ef_SM ef hM
  have c9 : mI M9 (q 20 0) 0 = 0 := by rw [Ef_i ef (by unfold PT PG PN PA Pg; omega)]; exact hc0
  have fin : TkN nL W nB N G L G9 L9 → f_X12_ticks_110 Y (q 20 0) Kn M9 := by
    intro hT
    have key := h G9 L9 M9 hT gm ml ef
    unfold f_X12_ticks_110 f_X12_ticks_137
    rw [c9, ml.2.2.2, gm.1]
    refine ⟨fun _ => ⟨fun z => by rwa [if_pos z] at key, fun z => by rwa [if_neg z] at key⟩, fun z => absurd (by decide : (0 : Int32) ≤ 0) z⟩
  unfold L_X12_ticks_49
  rw [nI_cmp (by omega) (by omega), c9, ml.2.2.2]
  refine ⟨fun c => fin ?_, fun c => ⟨fun z => absurd rfl z, fun _ => ⟨fun z => ?_, fun z M16 e16 => ?_⟩⟩⟩
  · rcases hcase with ⟨_, _, _, _, hT⟩ | ⟨_, hT⟩
    · exact hT _ _ (by rw [show N - k = 0 by omega]; exact ⟨rfl, rfl⟩)
    · exact hT
  · rcases hcase with ⟨a, _⟩ | ⟨_, hT⟩
    · exact absurd a z
    · exact fin hT
  · rcases hcase with ⟨_, tk, il, gi, hT⟩ | ⟨a, _⟩
    rotate_left
    · exact absurd z a
    rw [gm.1, nI_1] at e16
    have G16 := GM_tm hC gm e16
    have E16 : EfH q (fun a b j => a = 20 ∧ b = 0 ∧ j = 4) M9 M16 := EfH_sI hC e16 ⟨rfl, rfl, rfl⟩
    have L16 := ML_ef ml E16 (fun a b j z => by unfold PLg at z; omega) (by omega) (by omega) (by omega)
    have I16 := GI_tm gi (by omega)
    have eN : N - k = (N - k - 1) + 1 := by omega
    rw [eN] at hT
    refine LOOP2_inv (fun x17 M18 => ∃ g GA LA, g ≤ 8 ∧ x17 = nI g ∧ GM q M18 GA ∧ ML q nL W nB M18 st LA ∧ Ef q PT M M18 ∧ ((lD LA = 0 ∧ IL nL W nB (n + 8000 * k + 1000 * g) st LA ∧ GI (n + 8000 * k + 1000 * g) GA ∧ ∀ G' L', TGr nL W nB (8 - g) g GA LA G' L' → TGr nL W nB 8 0 (timG G9 (gT G9 + 1)) L9 G' L') ∨ (¬ lD LA = 0 ∧ TGr nL W nB 8 0 (timG G9 (gT G9 + 1)) L9 GA LA))) (fun x17 _ => 8 - x17.toNatClampNeg) ?_ _ _ ⟨0, _, L9, by omega, rfl, G16, L16, Ef_trans ef (Ef_mono E16.1 (fun a b j z => Or.inr z)), Or.inl ⟨z, il, I16, fun _ _ w => w⟩⟩
    rintro x17 M18 again2 ⟨g, GA, LA, hg, rfl, gmA, mlA, efA, hcA⟩ hag2
    have hMA := Ef_SM efA hM
    have nx : TGr nL W nB 8 0 (timG G9 (gT G9 + 1)) L9 GA LA → (lD LA = 0 → IL nL W nB (n + 8000 * (k + 1)) st LA ∧ GI (n + 8000 * (k + 1)) GA) → f_X12_ticks_104 Y (nI k) again M18 := by
      intro hTg hI x19 e19
      rw [nI_1] at e19
      subst e19
      refine hag _ _ ⟨k + 1, GA, LA, by omega, rfl, gmA, mlA, efA, ?_⟩ ?_
      · by_cases w : lD LA = 0
        · refine Or.inl ⟨w, ?_, (hI w).1, (hI w).2, fun G' L' hx => hT G' L' ⟨GA, LA, hTg, Or.inl ⟨w, by rwa [show N - k - 1 = N - (k + 1) by omega]⟩⟩⟩
          rw [TGr_tm hTg]; show gT G9 + 1 = _; omega
        · exact Or.inr ⟨w, hT _ _ ⟨GA, LA, hTg, Or.inr ⟨w, rfl, rfl⟩⟩⟩
      · rw [nI_clamp (by omega), nI_clamp (by omega)]; omega
    unfold L_X12_ticks_80
    rw [show (8 : Int32) = nI 8 from rfl, nI_cmp (by omega) (by omega), mlA.2.2.2]
    refine ⟨fun c2 => ?_, fun c2 => ⟨fun w => ?_, fun w => ?_⟩⟩
    · have hg8 : g = 8 := by omega
      subst hg8
      rcases hcA with ⟨w, a, b, hh⟩ | ⟨w, hh⟩
      · exact nx (hh _ _ ⟨rfl, rfl⟩) (fun _ => by rw [show n + 8000 * (k + 1) = n + 8000 * k + 1000 * 8 by omega]; exact ⟨a, b⟩)
      · exact nx hh (fun w2 => absurd w2 w)
    · rcases hcA with ⟨w2, _⟩ | ⟨_, hh⟩
      · exact absurd w2 w
      · exact nx hh (fun w2 => absurd w2 w)
    · rcases hcA with ⟨_, il2, gi2, hh⟩ | ⟨w2, _⟩
      rotate_left
      · exact absurd w w2
      have e8 : 8 - g = (7 - g) + 1 := by omega
      rw [e8] at hh
      refine m_tick1 hC hMA il2.1 mlA w (IL_lf il2 w) gmA gi2 (by omega) (by omega) ?_
      intro G' L' M22 hs gm' ml' ef' x23 e23
      rw [nI_1] at e23
      subst e23
      refine hag2 _ _ ⟨g + 1, G', L', by omega, rfl, gm', ml', Ef_trans efA (Ef_mono ef' (fun a b j z => Or.inl z)), ?_⟩ ?_
      · by_cases w3 : lD L' = 0
        · refine Or.inl ⟨w3, ?_, ?_, fun G2 L2 hx => hh G2 L2 ⟨G', L', hs, Or.inl ⟨w3, by rwa [show 8 - (g + 1) = 7 - g by omega] at hx⟩⟩⟩
          · have := SetR_IL il2 (GI_drop (g := g) gi2) (by omega) hd.2.2.1 (by omega) hs
            rwa [show n + 8000 * k + 1000 * g + 1000 = n + 8000 * k + 1000 * (g + 1) by omega] at this
          · exact GI_up (SetR_GI hs (GI_drop gi2)) (by omega)
        · exact Or.inr ⟨w3, hh _ _ ⟨G', L', hs, Or.inr ⟨w3, rfl, rfl⟩⟩⟩
      · rw [nI_clamp (by omega), nI_clamp (by omega)]; omega
theorem c_ticksL {Y : Ly} {q : Nat → Nat → Nat} {nL W nB : Nat} {M : Mm} {st : Nat → Int64} {L : LSt} {G : GSt} {N n : Nat} {Kn : Int32 → Mm → Prop} (hC : SC Y q nL W nB) (hR : SR q nL (mR M)) (hCL : CL q nL W nB M st L) (hD0 : lD L = 0) (hIL : IL nL W nB n st L) (hGC : GC q M G) (hGI : GI n G) (hN : N ≤ 200) (hn : n + 8000 * N < 2 ^ 30) (ht : gT G + N ≤ 100000)
    (h : ∀ G' L' M', TkN nL W nB N G L G' L' → GC q M' G' → CL q nL W nB M' st L' → Fr q (Fc nL) M M' → (∀ j, j < 1024 → mI M' (q 0 11) j = mI M (q 0 11) j) → IL nL W nB (n + 8000 * N) st L' → GI (n + 8000 * N) G' → Kn (if lD L' = 0 then nI (gT G') else -3) M') : ∃ m, LOOP2 (L_X11_ticks_41 Y (q 0 0) (nI N) Kn) m 0 M := by
  have hd := sdims hC
  refine LOOP2_inv (fun x8 M9 => ∃ k G9 L9, k ≤ N ∧ x8 = nI k ∧ GC q M9 G9 ∧ CL q nL W nB M9 st L9 ∧ Fr q (Fc nL) M M9 ∧ (∀ j, j < 1024 → mI M9 (q 0 11) j = mI M (q 0 11) j) ∧ lD L9 = 0 ∧ gT G9 = gT G + k ∧ IL nL W nB (n + 8000 * k) st L9 ∧ GI (n + 8000 * k) G9 ∧ ∀ G' L', TkN nL W nB (N - k) G9 L9 G' L' → TkN nL W nB N G L G' L') (fun x8 _ => N - x8.toNatClampNeg) ?_ _ _ ⟨0, G, L, by omega, rfl, hGC, hCL, Fr_refl _ _ _, fun _ _ => rfl, hD0, rfl, hIL, hGI, fun _ _ z => z⟩
  rintro x8 M9 again ⟨k, G9, L9, hk, rfl, gc, cl, F, hb, d0, tk, il, gi, hT⟩ hag
  have hR9 : SR q nL (mR M9) := by rw [F.2]; exact hR
  unfold L_X11_ticks_41
  rw [nI_cmp (by omega) (by omega)]
  have ILup : ∀ {a b : Nat} {L : LSt}, IL nL W nB a st L → a ≤ b → IL nL W nB b st L := by
    rintro a b L ⟨x1, x2, x3, x4, x5⟩ hle
    refine ⟨x1, x2, fun l hl => ?_, fun b hb => ?_, x5⟩
    · obtain ⟨s, e, y1, y2, y3, y4⟩ := x3 l hl
      exact ⟨s, e, y1, y2, by omega, y4⟩
    · obtain ⟨g, o, v, y1, y2, y3, y4⟩ := x4 b hb
      refine ⟨g, o, v, y1, y2, y3, fun z => ?_⟩
      obtain ⟨k, hk, e⟩ := y4 z
      exact ⟨k, by omega, e⟩
  refine ⟨fun c => ⟨_, sr_0_0_12 hR9, sk_0_26 hC, ?_⟩, fun c => ⟨_, sr_0_0_12 hR9, sk_0_26 hC, ?_⟩⟩
  · have := h G9 L9 M9 (hT _ _ (by rw [show N - k = 0 by omega]; exact ⟨rfl, rfl⟩)) gc cl F hb (ILup il (by omega)) (GI_up gi (by omega))
    rw [if_pos d0] at this
    rw [gc.1]; exact this
  · have eN : N - k = (N - k - 1) + 1 := by omega
    rw [eN] at hT
    refine c_tick hC hR9 cl d0 il gc gi (by omega) (by omega) ?_
    intro G' L' M16 hTg gc' cl' F' hb'
    obtain ⟨il', gi'⟩ := TGr_I hd.2.2.1 hTg (by omega) il (GI_tm gi (by omega)) (by omega)
    rw [show n + 8000 * k + 1000 * 8 = n + 8000 * (k + 1) by omega] at il' gi'
    have FF := Fr_trans F F'
    have bb : ∀ j, j < 1024 → mI M16 (q 0 11) j = mI M (q 0 11) j := fun j hj => by rw [hb' j hj, hb j hj]
    by_cases w : lD L' = 0
    · rw [if_pos w]
      refine ⟨fun _ x20 e20 => ?_, fun z => absurd z (by decide)⟩
      rw [nI_1] at e20
      subst e20
      refine hag _ _ ⟨k + 1, G', L', by omega, rfl, gc', cl', FF, bb, w, ?_, il', gi', fun G2 L2 hx => hT G2 L2 ⟨G', L', hTg, Or.inl ⟨w, by rwa [show N - k - 1 = N - (k + 1) by omega]⟩⟩⟩ ?_
      · rw [TGr_tm hTg]; show gT G9 + 1 = _; omega
      · rw [nI_clamp (by omega), nI_clamp (by omega)]; omega
    · rw [if_neg w]
      refine ⟨fun z => absurd rfl z, fun _ => ?_⟩
      have := h G' L' M16 (hT _ _ ⟨G', L', hTg, Or.inr ⟨w, rfl, rfl⟩⟩) gc' cl' FF bb (ILup il' (by omega)) (GI_up gi' (by omega))
      rwa [if_neg w] at this
/-! shares by the model -/
theorem nxM_le (m : Nat) : ∀ f x, nxM m f x ≤ x + f
  | 0, x => Nat.le_refl _
  | f + 1, x => by
    simp only [nxM]
    split
    · omega
    · have := nxM_le m f (x + 1); omega
theorem owM_le (m : Nat) : ∀ l, owM m l ≤ 9 * l + 8
  | 0 => nxM_le m 8 0
  | l + 1 => by have := nxM_le m 8 (owM m l + 1); have := owM_le m l; simp only [owM]; omega
theorem m_owner {Y : Ly} {q : Nat → Nat → Nat} {nL W nB : Nat} {M : Mm} {G : GSt} {g l k : Nat} {Kn : Int32 → Mm → Prop} (hC : SC Y q nL W nB) (hM : SM q (mR M)) (hGM : GM q M G) (hg : g < 8) (hl : l < 8) (hk : k < 8) (hm : (gM G g).testBit k = true) (h : Kn (nI (owM (gM G g) l % 8)) M) : f_X12_owner Y (q 20 0) (nI g) (nI l) M Kn := by
  unfold f_X12_owner
  obtain ⟨m, em⟩ : ∃ m, m = gM G g := ⟨_, rfl⟩
  rw [← em] at hm h
  refine LOOP2_inv (fun x1 x2 => ∃ i a, i ≤ l + 1 ∧ x2 = nI i ∧ x1 = nI a - 1 ∧ a ≤ 9 * i ∧ (i = 0 → a = 0) ∧ (∀ i', i = i' + 1 → a = owM m i' + 1)) (fun _ x2 => l + 1 - x2.toNatClampNeg) ?_ _ _ ⟨0, 0, by omega, rfl, rfl, by omega, fun _ => rfl, fun i' z => by omega⟩
  rintro x1 x2 again ⟨i, a, hi, rfl, rfl, ha, ha0, ha1⟩ hag
  unfold L_X12_owner_5
  rw [nI_ltI (by omega) (by omega)]
  refine ⟨fun c => ?_, fun c x5 e5 => ?_⟩
  · have hil : i = l + 1 := by omega
    have := ha1 l hil
    subst this
    rw [nI_pred, show (8 : Int32) = nI 8 from rfl, pk_rem (by omega) (by decide) (by decide)]
    exact h
  · rw [Int32.sub_add_cancel] at e5
    subst e5
    have eo : owM m i = nxM m 8 a := by
      cases i with
      | zero => rw [ha0 rfl]; rfl
      | succ i' => rw [ha1 i' rfl]; rfl
    refine LOOP1_inv (fun x6 => ∃ y f, x6 = nI y ∧ y + f = a + 8 ∧ a ≤ y ∧ (∀ z, a ≤ z → z < y → ¬ m.testBit (z % 8) = true) ∧ nxM m 8 a = nxM m f y) (fun x6 => a + 8 - x6.toNatClampNeg) ?_ _ ⟨a, 8, rfl, rfl, Nat.le_refl _, fun z h1 h2 => by omega, rfl⟩
    rintro x6 again2 ⟨y, f, rfl, hyf, hay, hno, hnx⟩ hag2
    have hf0 : f ≠ 0 := by
      intro z
      subst z
      obtain ⟨z, hz1, hz2⟩ : ∃ z, a ≤ z ∧ z < a + 8 ∧ z % 8 = k := ⟨a + (k + 8 - a % 8) % 8, by omega, by omega, by omega⟩
      exact hno z hz1 (by omega) (by rw [hz2.2]; exact hm)
    obtain ⟨f', rfl⟩ : ∃ f', f = f' + 1 := ⟨f - 1, by omega⟩
    unfold L_X12_owner_14
    have hy8 : y % 8 < 8 := Nat.mod_lt _ (by decide)
    have e8 : (8 : Int32) * nI g + (nI y - nI y / 8 * 8) = nI (8 * g + y % 8) := by
      rw [show nI y - nI y / 8 * 8 = nI (y % 8) from pk_rem (d := 8) (by omega) (by decide) (by decide)]
      exact e88a g (y % 8)
    refine ⟨sk_20_0 hC, _, sm_37 hM, sk_20_38 hC, ?_, ?_⟩
    · rw [e8, sn_20_38 hC]; exact vp_in_nI (by omega) (by decide)
    rw [e8, AB_at hGM.2.2.2.1 hg hy8, bt1_0, ← em]
    rw [show nxM m (f' + 1) y = if m.testBit (y % 8) = true then y else nxM m f' (y + 1) from rfl] at hnx
    refine ⟨fun c2 x13 e13 => ?_, fun c2 x14 e14 => ?_⟩
    · rw [nI_1] at e13
      subst e13
      rw [if_pos (Decidable.not_not.mp c2)] at hnx
      refine hag _ _ ⟨i + 1, y + 1, by omega, rfl, by rw [nI_pred], by omega, fun z => by omega, fun i' z => ?_⟩ ?_
      · have : i' = i := by omega
        subst this
        rw [eo, hnx]
      · rw [nI_clamp (by omega), nI_clamp (by omega)]; omega
    · rw [nI_1] at e14
      subst e14
      rw [if_neg c2] at hnx
      refine hag2 _ ⟨y + 1, f', rfl, by omega, by omega, fun z h1 h2 => ?_, hnx⟩ ?_
      · by_cases e : z = y
        · rw [e]; exact c2
        · exact hno z h1 (by omega)
      · rw [nI_clamp (by omega), nI_clamp (by omega)]; omega
theorem mskF_cons (f : Nat → Bool) (n : Nat) : mskF f (n + 1) = 2 * mskF (fun j => f (j + 1)) n + (if f 0 = true then 1 else 0) := by
  apply Nat.eq_of_testBit_eq
  intro i
  rw [mskF_t]
  cases i with
  | zero =>
    rw [Nat.testBit_zero]
    by_cases e : f 0 = true
    · simp [e]
    · simp [e]
  | succ i =>
    rw [Nat.testBit_succ]
    have : (2 * mskF (fun j => f (j + 1)) n + (if f 0 = true then 1 else 0)) / 2 = mskF (fun j => f (j + 1)) n := by split <;> omega
    rw [this, mskF_t]
    congr 1
    simp only [decide_eq_decide]; omega
theorem mskF_step (f : Nat → Bool) (i N : Nat) (h : i < N) : mskF (fun j => f (i + j)) (N - i) = 2 * mskF (fun j => f (i + 1 + j)) (N - (i + 1)) + (if f i = true then 1 else 0) := by
  rw [show N - i = (N - (i + 1)) + 1 by omega, mskF_cons]
  congr 2
  congr 1
  funext j; congr 1; omega
theorem m_shareL {Y : Ly} {q : Nat → Nat → Nat} {nL W nB : Nat} {M : Mm} {G : GSt} {g k : Nat} {Kn : Int32 → Mm → Prop} (hC : SC Y q nL W nB) (hM : SM q (mR M)) (hGM : GM q M G) (hg : g < 8) (hk : k < 8) (hm : (gM G g).testBit k = true) (h : Kn (nI (shM nL (gM G g) k)) M) : ∃ n, LOOP3 (L_X12_share_62 Y (q 20 0) (nI g) (nI k) Kn) n 0 (nI nL - 1) M := by
  have hd := sdims hC
  refine LOOP3_inv (fun x18 x19 M20 => ∃ i, i ≤ nL ∧ x19 = nI i - 1 ∧ x18 = nI (mskF (fun j => isO (gM G g) k (i + j)) (nL - i)) ∧ M20 = M) (fun _ x19 _ => (x19 + 1).toNatClampNeg) ?_ _ _ _ ⟨nL, Nat.le_refl _, rfl, by rw [Nat.sub_self]; rfl, rfl⟩
  rintro x18 x19 M20 again ⟨i, hi, rfl, rfl, rfl⟩ hag
  unfold L_X12_share_62
  cases i with
  | zero =>
    refine ⟨fun _ => ?_, fun c => absurd (show (nI 0 - 1 : Int32) < 0 from by decide) c⟩
    unfold shM at h
    have : (fun j => isO (gM G g) k (0 + j)) = isO (gM G g) k := by funext j; rw [Nat.zero_add]
    rw [this]; exact h
  | succ i =>
    rw [nI_pred]
    refine ⟨fun c => absurd c (nI_pos (by omega)), fun _ => m_owner hC hM hGM hg (by omega) hk hm ?_⟩
    have hmod : owM (gM G g) i % 8 < 8 := Nat.mod_lt _ (by decide)
    have mlt := mskF_lt (fun j => isO (gM G g) k (i + 1 + j)) (nL - (i + 1)) (by omega)
    have nxt : ∀ y24, y24 = nI (if isO (gM G g) k i = true then 1 else 0) → f_X12_share_86 Y (nI (mskF (fun j => isO (gM G g) k (i + 1 + j)) (nL - (i + 1)))) (nI i) again M20 y24 := by
      intro y24 e24 x25 e25 x26 e26
      rw [e24, show (2 : Int32) = nI 2 from rfl, pk_mul, nI_add, ← mskF_step _ i nL (by omega)] at e25
      have : nI i + (-1) = nI i - 1 := by rw [Int32.sub_eq_add_neg]
      rw [this] at e26
      subst e25 e26
      refine hag _ _ _ ⟨i, by omega, rfl, rfl, rfl⟩ ?_
      rw [Int32.sub_add_cancel, Int32.sub_add_cancel, nI_clamp (by omega), nI_clamp (by omega)]; omega
    rw [nI_eq (by omega) (by omega)]
    refine ⟨fun c => nxt 0 ?_, fun c => nxt 1 ?_⟩
    · rw [if_neg (by unfold isO; rw [decide_eq_true_eq]; exact c)]; rfl
    · rw [if_pos (by unfold isO; rw [decide_eq_true_eq]; exact c)]; rfl
