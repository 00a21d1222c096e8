/-! ticks -/
def mskF (f : Nat → Bool) : Nat → Nat
  | 0 => 0
  | n + 1 => mskF f n ||| (if f n = true then 2 ^ n else 0)
theorem mskF_t (f : Nat → Bool) : ∀ n j, (mskF f n).testBit j = (decide (j < n) && f j)
  | 0, j => by simp [mskF]
  | n + 1, j => by
    simp only [mskF, Nat.testBit_or, mskF_t f n j]
    by_cases e : j = n
    · subst e
      by_cases g : f j = true
      · rw [if_pos g]; simp [g]
      · rw [if_neg g]; simp [g]
    · have : (if f n = true then 2 ^ n else 0).testBit j = false := by
        split
        · rw [Nat.testBit_two_pow]; simp; omega
        · simp
      rw [this, Bool.or_false]
      congr 1
      simp only [decide_eq_decide]; omega
theorem mskF_lt (f : Nat → Bool) (n : Nat) (h : n ≤ 8) : mskF f n < 256 := by
  refine Nat.lt_pow_two_of_testBit (n := 8) _ (fun i hi => ?_)
  rw [mskF_t]; simp; omega
def lfF (G : GSt) (g : Nat) : Nat → Bool := fun k => (gM G g).testBit k && decide (gT G - gH G (8 * g + k) < 30)
def lfM (G : GSt) (g : Nat) : Nat := mskF (lfF G g) 8
def dropG (G : GSt) (g : Nat) : GSt := if gS G g = 2 then (if lfM G g = 0 then empG G g else if lfM G g = gM G g then G else mixG (memG G g (lfM G g)) g) else G
theorem mix_mj (G : GSt) (g a : Nat) : mixG (memG G g a) g = mixG (joiG (memG G g a) g 0) g := by
  show (gN G, m1 (gS G) g 1, m1 (gM G) g a, m1 (gJ G) g 0, m1 (gL G) g (gT G + 20), gH G, gT G) = (gN G, m1 (gS G) g 1, m1 (gM G) g a, m1 (m1 (gJ G) g 0) g 0, m1 (gL G) g (gT G + 20), gH G, gT G)
  rw [m1_m1]
theorem GI_drop {n : Nat} {G : GSt} {g : Nat} (h : GI n G) : GI n (dropG G g) := by
  unfold dropG
  split
  · split
    · exact GI_emp h
    · split
      · exact h
      · rw [mix_mj]
        exact (GI_weak h (mskF_lt _ 8 (Nat.le_refl _)) (by decide) (sub8_0 _)).2
  · exact h
theorem c_drop {Y : Ly} {q : Nat → Nat → Nat} {nL W nB : Nat} {M : Mm} {G : GSt} {g n : Nat} {Kn : Mm → Prop} (hC : SC Y q nL W nB) (hR : SR q nL (mR M)) (hGC : GC q M G) (hGI : GI n G) (hg : g < 8) (h : ∀ M', Fr q Fg M M' → GC q M' (dropG G g) → Kn M') : f_X7_dropSilent Y (q 0 26) (nI g) M Kn := by
  have vin : ∀ b, yN Y b = 8 → vp_in (nI g) (yN Y b) := fun b hb => by rw [hb]; exact vp_in_nI hg (by decide)
  have hgc : (nI g).toNatClampNeg = g := nI_clamp (by omega)
  obtain ⟨p, b', c, d, ee, f, i, j⟩ := hGI.2.2 g hg
  have ht := hGI.1
  unfold f_X7_dropSilent
  refine ⟨sk_0_26 hC, _, sr_0_26_2 hR, sk_0_28 hC, vin _ (sn_0_28 hC), ?_⟩
  rw [hgc, hGC.2.2.1 g hg, nIeq (x := 2) (b := 2) rfl (by omega) (by omega)]
  refine ⟨fun c2 => ?_, fun c2 => h M (Fr_refl _ _ _) (by unfold dropG; rw [if_neg c2]; exact hGC)⟩
  unfold dropG at h
  rw [if_pos c2] at h
  refine LOOP3_inv (fun x6 x7 M8 => ∃ k, k ≤ 8 ∧ x7 = nI k ∧ x6 = nI (mskF (lfF G g) k) ∧ M8 = M) (fun _ x7 _ => 8 - x7.toNatClampNeg) ?_ _ _ _ ⟨0, by omega, rfl, rfl, rfl⟩
  rintro x6 x7 M8 again ⟨k, hk, rfl, rfl, rfl⟩ hag
  unfold L_X7_dropSilent_15 f_X7_dropSilent_97
  have mlt := mskF_lt (lfF G g) k hk
  rw [show (8 : Int32) = nI 8 from rfl, nI_cmp (by omega) (by omega)]
  refine ⟨fun c3 => ?_, fun c3 => ?_⟩
  · have hk8 : k = 8 := by omega
    subst hk8
    have e : mskF (lfF G g) 8 = lfM G g := rfl
    rw [e] at mlt ⊢
    rw [nIeq (x := 0) (b := 0) rfl (by omega) (by omega)]
    refine ⟨fun z => ⟨_, sr_0_26_3 hR, sk_0_29 hC, vin _ (sn_0_29 hC), ?_⟩, fun z => c_empty hC hR hGC hg (fun M' F' _ G' => h M' F' (by rw [if_pos z]; exact G'))⟩
    rw [hgc, hGC.2.2.2.1 g hg, nI_eq (by omega) (by omega)]
    rw [if_neg z] at h
    refine ⟨fun z2 => h M8 (Fr_refl _ _ _) (by rw [if_pos z2]; exact hGC), fun z2 => ⟨_, sr_0_26_3 hR, sk_0_29 hC, vin _ (sn_0_29 hC), fun M19 e19 => ?_⟩⟩
    rw [if_neg z2] at h
    have G19 := GC_29 hC hGC e19
    have F19 : Fr q Fg M8 M19 := Fr_e e19 ⟨rfl, by omega⟩
    exact c_mix hC (by rw [F19.2]; exact hR) G19 hg (fun M' F' _ G' => h M' (Fr_trans F19 F') G')
  · have nxt : ∀ x24, x24 = nI (mskF (lfF G g) (k + 1)) → f_X7_dropSilent_57 Y (nI k) again M8 x24 := by
      intro x24 e24 x25 e25
      rw [nI_1] at e25
      subst e25
      refine hag _ _ _ ⟨k + 1, by omega, rfl, e24, rfl⟩ ?_
      rw [nI_clamp (by omega), nI_clamp (by omega)]; omega
    refine c_has hC hR hGC hg (by omega) c ?_
    unfold bt1
    have hk8 : 8 * g + k < 64 := by omega
    have hH := hGI.2.1 _ hk8
    have e8 : nI g * nI 8 + nI k = nI (8 * g + k) := by rw [pk_mul g 8, nI_add]; congr 1; omega
    by_cases hm : (gM G g).testBit k = true
    · rw [if_pos hm]
      refine ⟨fun z => absurd z (by decide), fun _ => ⟨_, sr_0_26_6 hR, sk_0_32 hC, ?_, ?_⟩⟩
      · rw [e8, sn_0_32 hC]; exact vp_in_nI hk8 (by decide)
      rw [e8, nI_clamp (by omega), hGC.2.2.2.2.2.2 _ hk8, hGC.1, pk_sub hH, show (30 : Int32) = nI 30 from rfl, nI_cmp (by omega) (by omega)]
      refine ⟨fun z => nxt _ ?_, fun z x31 e31 => nxt _ ?_⟩
      · simp only [mskF]
        rw [if_neg]
        · simp
        · unfold lfF; simp [hm]; omega
      · rw [e31]
        have hb := bz_or ⟨_, mlt⟩ ⟨k, by omega⟩
        dsimp only at hb
        simp only [mskF]
        rw [if_pos (by unfold lfF; simp [hm]; omega), ← hb]
    · rw [if_neg hm]
      refine ⟨fun _ => nxt _ ?_, fun z => absurd rfl z⟩
      simp only [mskF]
      rw [if_neg]
      · simp
      · unfold lfF; simp [hm]
def TGr (nL W nB : Nat) : Nat → Nat → GSt → LSt → GSt → LSt → Prop
  | 0, _, G, L, G', L' => G' = G ∧ L' = L
  | n + 1, g, G, L, G', L' => ∃ G2 L2, SetR nL W nB g (dropG G g) L G2 L2 ∧ ((lD L2 = 0 ∧ TGr nL W nB n (g + 1) G2 L2 G' L') ∨ (¬ lD L2 = 0 ∧ G' = G2 ∧ L' = L2))
theorem TGr_fun {nL W nB : Nat} : ∀ {n g : Nat} {G G1 G2 : GSt} {L L1 L2 : LSt}, TGr nL W nB n g G L G1 L1 → TGr nL W nB n g G L G2 L2 → G1 = G2 ∧ L1 = L2
  | 0, _, _, _, _, _, _, _, h, h' => ⟨h.1.trans h'.1.symm, h.2.trans h'.2.symm⟩
  | n + 1, g, G, G1, G2, L, L1, L2, ⟨A, B, h1, h2⟩, ⟨A', B', h1', h2'⟩ => by
    obtain ⟨rfl, rfl⟩ := SetR_fun h1 h1'
    rcases h2 with ⟨a, b⟩ | ⟨a, b, c⟩ <;> rcases h2' with ⟨a', b'⟩ | ⟨a', b', c'⟩
    · exact TGr_fun b b'
    · exact absurd a a'
    · exact absurd a' a
    · exact ⟨b.trans b'.symm, c.trans c'.symm⟩
theorem IL_en {nL W nB n : Nat} {st : Nat → Int64} {L : LSt} (h : IL nL W nB n st L) (hn : n < 2 ^ 40) : ∃ e, lE L nL = lN e ∧ e < 2 ^ 62 := by
  obtain ⟨s, e, _, a, b, _⟩ := h.2.2.1 nL (Nat.le_refl _)
  exact ⟨e, a, by omega⟩
theorem IL_lf {nL W nB n : Nat} {st : Nat → Int64} {L : LSt} (h : IL nL W nB n st L) (h0 : lD L = 0) : LfOK (lL L) := by
  rcases h.2.2.2.2 with ⟨_, a⟩ | a
  · exact a
  · rw [h0] at a; exact absurd a (by decide)
theorem TGr_I {nL W nB : Nat} {st : Nat → Int64} (hW : 1 ≤ W) : ∀ {m g n : Nat} {G G' : GSt} {L L' : LSt}, TGr nL W nB m g G L G' L' → g + m ≤ 8 → IL nL W nB n st L → GI n G → n + 1000 * m < 2 ^ 39 → IL nL W nB (n + 1000 * m) st L' ∧ GI (n + 1000 * m) G'
  | 0, _, _, _, _, _, _, h, _, hI, hG, _ => by rw [h.1, h.2]; exact ⟨hI, hG⟩
  | m + 1, g, n, G, G', L, L', ⟨A, B, h1, h2⟩, hg, hI, hG, hn => by
    have a := SetR_IL hI (GI_drop (g := g) hG) (by omega) hW (by omega) h1
    have b := GI_up (m := n + 1000) (SetR_GI h1 (GI_drop (g := g) hG)) (by omega)
    have up : ∀ {n' : Nat} {L : LSt}, IL nL W nB (n + 1000) st L → n + 1000 ≤ n' → IL nL W nB n' st L := by
      rintro n' L ⟨x1, x2, x3, x4, x5⟩ hle
      refine ⟨x1, x2, fun l hl => ?_, fun b hb => ?_, x5⟩
      · obtain ⟨s, e, y1, y2, y3, y4⟩ := x3 l hl
        exact ⟨s, e, y1, y2, by omega, y4⟩
      · obtain ⟨g, o, v, y1, y2, y3, y4⟩ := x4 b hb
        refine ⟨g, o, v, y1, y2, y3, fun z => ?_⟩
        obtain ⟨k, hk, e⟩ := y4 z
        exact ⟨k, by omega, e⟩
    rcases h2 with ⟨_, c⟩ | ⟨_, c, d⟩
    · have := TGr_I hW c (by omega) a b (by omega)
      rw [show n + 1000 + 1000 * m = n + 1000 * (m + 1) by omega] at this
      exact this
    · rw [c, d]
      exact ⟨up a (by omega), GI_up b (by omega)⟩
theorem GC_tm {Y : Ly} {q : Nat → Nat → Nat} {nL W nB : Nat} {M M' : Mm} {G : GSt} {t : Nat} (hC : SC Y q nL W nB) (h : GC q M G) (e : M' = sI M (q 0 26) (m1 (mI M (q 0 26)) 0 (nI t))) : GC q M' (timG G t) := by
  obtain ⟨h0, h1, h2, h3, h4, h5, h6⟩ := h
  subst e
  refine ⟨?_, ?_, ?_, ?_, ?_, ?_, ?_⟩
  · rw [mI_sI_self, m1_at]; rfl
  · rw [I_ne hC _ _ (by omega)]; exact h1
  · rw [I_ne hC _ _ (by omega)]; exact h2
  · rw [I_ne hC _ _ (by omega)]; exact h3
  · rw [I_ne hC _ _ (by omega)]; exact h4
  · rw [I_ne hC _ _ (by omega)]; exact h5
  · rw [I_ne hC _ _ (by omega)]; exact h6
theorem GI_tm {n : Nat} {G : GSt} (h : GI n G) (ht : gT G + 1 ≤ 100000) : GI n (timG G (gT G + 1)) :=
  ⟨ht, fun k hk => Nat.le_trans (h.2.1 k hk) (Nat.le_succ _), fun g hg => by
    obtain ⟨a, b, c, d, e, f, i, j⟩ := h.2.2 g hg
    refine ⟨a, b, c, d, e, ?_, i, j⟩
    show gL G g ≤ gT G + 1 + 20
    omega⟩
theorem c_tick {Y : Ly} {q : Nat → Nat → Nat} {nL W nB : Nat} {M : Mm} {st : Nat → Int64} {L : LSt} {G : GSt} {n : Nat} {Kn : Int32 → Mm → Prop} (hC : SC Y q nL W nB) (hR : SR q nL (mR M)) (hCL : CL q nL W nB M st L) (hD0 : lD L = 0) (hIL : IL nL W nB n st L) (hGC : GC q M G) (hGI : GI n G) (hn : n + 8000 < 2 ^ 30) (ht : gT G + 1 ≤ 100000)
    (h : ∀ G' L' M', TGr nL W nB 8 0 (timG G (gT G + 1)) L G' L' → GC q M' G' → CL q nL W nB M' st L' → Fr q (Fc nL) M M' → (∀ j, j < 1024 → mI M' (q 0 11) j = mI M (q 0 11) j) → Kn (if lD L' = 0 then 1 else 0) M') : f_X7_tick Y (q 0 26) M Kn := by
  have hd := sdims hC
  unfold f_X7_tick
  refine ⟨sk_0_26 hC, fun M2 e2 => ?_⟩
  rw [hGC.1, nI_1] at e2
  have G2 := GC_tm hC hGC e2
  have F2 : Fr q Fg M M2 := Fr_e e2 ⟨rfl, by omega⟩
  have I2 := GI_tm hGI ht
  refine LOOP2_inv (fun x3 M4 => ∃ g G4 L4, g ≤ 8 ∧ x3 = nI g ∧ GC q M4 G4 ∧ CL q nL W nB M4 st L4 ∧ lD L4 = 0 ∧ IL nL W nB (n + 1000 * g) st L4 ∧ GI (n + 1000 * g) G4 ∧ Fr q (Fc nL) M M4 ∧ (∀ j, j < 1024 → mI M4 (q 0 11) j = mI M (q 0 11) j) ∧ ∀ G' L', TGr nL W nB (8 - g) g G4 L4 G' L' → TGr nL W nB 8 0 (timG G (gT G + 1)) L G' L') (fun x3 _ => 8 - x3.toNatClampNeg) ?_ _ _ ⟨0, _, L, by omega, rfl, G2, Fg_CL hC hCL F2, hD0, hIL, I2, Fg_Fc F2, fun j _ => by rw [Fg_11 hC F2], fun G' L' z => z⟩
  rintro x3 M4 again ⟨g, G4, L4, hg, rfl, gc, cl, d0, il, gi, F, hb, hT⟩ hag
  have hR4 : SR q nL (mR M4) := by rw [F.2]; exact hR
  unfold L_X7_tick_12
  rw [show (8 : Int32) = nI 8 from rfl, nI_cmp (by omega) (by omega)]
  refine ⟨fun c => ⟨bz_1, ?_⟩, fun c => ?_⟩
  · have := h G4 L4 M4 (hT _ _ (by rw [show 8 - g = 0 by omega]; exact ⟨rfl, rfl⟩)) gc cl F hb
    rwa [if_pos d0] at this
  · refine c_drop hC hR4 gc gi (by omega) (fun M6 F6 G6 => ?_)
    obtain ⟨e, he1, he2⟩ := IL_en il (by omega)
    refine c_settle hC (by rw [F6.2]; exact hR4) il.1 (Fg_CL hC cl F6) d0 (IL_lf il d0) G6 (GI_drop gi) (by omega) (by omega) he1 he2 ?_
    intro G7 L7 M7 hs gc7 cl7 F7 hb7
    have FF : Fr q (Fc nL) M M7 := Fr_trans F (Fr_trans (Fg_Fc F6) F7)
    have hbb : ∀ j, j < 1024 → mI M7 (q 0 11) j = mI M (q 0 11) j := fun j hj => by rw [hb7 j hj, Fg_11 hC F6, hb j hj]
    have e8 : 8 - g = (7 - g) + 1 := by omega
    rw [e8] at hT
    by_cases hdn : lD L7 = 0
    · rw [if_pos hdn]
      refine ⟨fun _ x10 e10 => ?_, fun z => absurd z (by decide)⟩
      rw [nI_1] at e10
      subst e10
      refine hag _ _ ⟨g + 1, G7, L7, by omega, rfl, gc7, cl7, hdn, ?_, ?_, FF, hbb, fun G' L' z => hT G' L' ⟨G7, L7, hs, Or.inl ⟨hdn, by rwa [show 8 - (g + 1) = 7 - g by omega] at z⟩⟩⟩ ?_
      · have := SetR_IL il (GI_drop (g := g) gi) (by omega) hd.2.2.1 (by omega) hs
        rwa [show n + 1000 * g + 1000 = n + 1000 * (g + 1) by omega] at this
      · exact GI_up (SetR_GI hs (GI_drop gi)) (by omega)
      · rw [nI_clamp (by omega), nI_clamp (by omega)]; omega
    · rw [if_neg hdn]
      refine ⟨fun z => absurd rfl z, fun _ => ⟨bz_0, ?_⟩⟩
      have := h G7 L7 M7 (hT _ _ ⟨G7, L7, hs, Or.inr ⟨hdn, rfl, rfl⟩⟩) gc7 cl7 FF hbb
      rwa [if_neg hdn] at this
def TkN (nL W nB : Nat) : Nat → GSt → LSt → GSt → LSt → Prop
  | 0, G, L, G', L' => G' = G ∧ L' = L
  | n + 1, G, L, G', L' => ∃ G2 L2, TGr nL W nB 8 0 (timG G (gT G + 1)) L G2 L2 ∧ ((lD L2 = 0 ∧ TkN nL W nB n G2 L2 G' L') ∨ (¬ lD L2 = 0 ∧ G' = G2 ∧ L' = L2))
theorem TkN_fun {nL W nB : Nat} : ∀ {n : Nat} {G G1 G2 : GSt} {L L1 L2 : LSt}, TkN nL W nB n G L G1 L1 → TkN nL W nB n G L G2 L2 → G1 = G2 ∧ L1 = L2
  | 0, _, _, _, _, _, _, h, h' => ⟨h.1.trans h'.1.symm, h.2.trans h'.2.symm⟩
  | n + 1, G, G1, G2, L, L1, L2, ⟨A, B, h1, h2⟩, ⟨A', B', h1', h2'⟩ => by
    obtain ⟨rfl, rfl⟩ := TGr_fun h1 h1'
    rcases h2 with ⟨a, b⟩ | ⟨a, b, c⟩ <;> rcases h2' with ⟨a', b'⟩ | ⟨a', b', c'⟩
    · exact TkN_fun b b'
    · exact absurd a a'
    · exact absurd a' a
    · exact ⟨b.trans b'.symm, c.trans c'.symm⟩
theorem SetR_tm {nL W nB g : Nat} {G G' : GSt} {L L' : LSt} (h : SetR nL W nB g G L G' L') : gT G' = gT G := by
  rcases h with ⟨_, e, _⟩ | ⟨_, _, ⟨_, e, _⟩ | ⟨c, r, _, e⟩⟩
  · rw [e]
  · rw [e]; rfl
  · rw [e]; split <;> rfl
theorem drop_tm (G : GSt) (g : Nat) : gT (dropG G g) = gT G := by
  unfold dropG
  split
  · split
    · rfl
    · split <;> rfl
  · rfl
theorem TGr_tm {nL W nB : Nat} : ∀ {n g : Nat} {G G' : GSt} {L L' : LSt}, TGr nL W nB n g G L G' L' → gT G' = gT G
  | 0, _, _, _, _, _, h => by rw [h.1]
  | n + 1, g, G, G', L, L', ⟨A, B, h1, h2⟩ => by
    have e := SetR_tm h1
    rw [drop_tm] at e
    rcases h2 with ⟨_, b⟩ | ⟨_, b, _⟩
    · rw [TGr_tm b, e]
    · rw [b, e]
