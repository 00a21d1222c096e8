theorem GC_27 {Y : Ly} {q : Nat → Nat → Nat} {nL W nB : Nat} {M M' : Mm} {G : GSt} {g v : Nat} (hC : SC Y q nL W nB) (h : GC q M G) (e : M' = sI M (q 0 27) (m1 (mI M (q 0 27)) g (nI v))) : GC q M' (m1 (gN G) g v, gS G, gM G, gJ G, gL G, gH G, gT G) := by
  obtain ⟨h0, h1, h2, h3, h4, h5, h6⟩ := h
  subst e
  refine ⟨?_, ?_, ?_, ?_, ?_, ?_, ?_⟩
  · rw [I_ne hC _ _ (by omega)]; exact h0
  · rw [mI_sI_self]; exact AR_set h1 g v
  · rw [I_ne hC _ _ (by omega)]; exact h2
  · rw [I_ne hC _ _ (by omega)]; exact h3
  · rw [I_ne hC _ _ (by omega)]; exact h4
  · rw [I_ne hC _ _ (by omega)]; exact h5
  · rw [I_ne hC _ _ (by omega)]; exact h6
theorem GC_28 {Y : Ly} {q : Nat → Nat → Nat} {nL W nB : Nat} {M M' : Mm} {G : GSt} {g v : Nat} (hC : SC Y q nL W nB) (h : GC q M G) (e : M' = sI M (q 0 28) (m1 (mI M (q 0 28)) g (nI v))) : GC q M' (gN G, m1 (gS G) g v, gM G, gJ G, gL G, gH G, gT G) := by
  obtain ⟨h0, h1, h2, h3, h4, h5, h6⟩ := h
  subst e
  refine ⟨?_, ?_, ?_, ?_, ?_, ?_, ?_⟩
  · rw [I_ne hC _ _ (by omega)]; exact h0
  · rw [I_ne hC _ _ (by omega)]; exact h1
  · rw [mI_sI_self]; exact AR_set h2 g v
  · rw [I_ne hC _ _ (by omega)]; exact h3
  · rw [I_ne hC _ _ (by omega)]; exact h4
  · rw [I_ne hC _ _ (by omega)]; exact h5
  · rw [I_ne hC _ _ (by omega)]; exact h6
theorem GC_29 {Y : Ly} {q : Nat → Nat → Nat} {nL W nB : Nat} {M M' : Mm} {G : GSt} {g v : Nat} (hC : SC Y q nL W nB) (h : GC q M G) (e : M' = sI M (q 0 29) (m1 (mI M (q 0 29)) g (nI v))) : GC q M' (gN G, gS G, m1 (gM G) g v, gJ G, gL G, gH G, gT G) := by
  obtain ⟨h0, h1, h2, h3, h4, h5, h6⟩ := h
  subst e
  refine ⟨?_, ?_, ?_, ?_, ?_, ?_, ?_⟩
  · rw [I_ne hC _ _ (by omega)]; exact h0
  · rw [I_ne hC _ _ (by omega)]; exact h1
  · rw [I_ne hC _ _ (by omega)]; exact h2
  · rw [mI_sI_self]; exact AR_set h3 g v
  · rw [I_ne hC _ _ (by omega)]; exact h4
  · rw [I_ne hC _ _ (by omega)]; exact h5
  · rw [I_ne hC _ _ (by omega)]; exact h6
theorem GC_30 {Y : Ly} {q : Nat → Nat → Nat} {nL W nB : Nat} {M M' : Mm} {G : GSt} {g v : Nat} (hC : SC Y q nL W nB) (h : GC q M G) (e : M' = sI M (q 0 30) (m1 (mI M (q 0 30)) g (nI v))) : GC q M' (gN G, gS G, gM G, m1 (gJ G) g v, gL G, gH G, gT G) := by
  obtain ⟨h0, h1, h2, h3, h4, h5, h6⟩ := h
  subst e
  refine ⟨?_, ?_, ?_, ?_, ?_, ?_, ?_⟩
  · rw [I_ne hC _ _ (by omega)]; exact h0
  · rw [I_ne hC _ _ (by omega)]; exact h1
  · rw [I_ne hC _ _ (by omega)]; exact h2
  · rw [I_ne hC _ _ (by omega)]; exact h3
  · rw [mI_sI_self]; exact AR_set h4 g v
  · rw [I_ne hC _ _ (by omega)]; exact h5
  · rw [I_ne hC _ _ (by omega)]; exact h6
theorem GC_31 {Y : Ly} {q : Nat → Nat → Nat} {nL W nB : Nat} {M M' : Mm} {G : GSt} {g v : Nat} (hC : SC Y q nL W nB) (h : GC q M G) (e : M' = sI M (q 0 31) (m1 (mI M (q 0 31)) g (nI v))) : GC q M' (gN G, gS G, gM G, gJ G, m1 (gL G) g v, gH G, gT G) := by
  obtain ⟨h0, h1, h2, h3, h4, h5, h6⟩ := h
  subst e
  refine ⟨?_, ?_, ?_, ?_, ?_, ?_, ?_⟩
  · rw [I_ne hC _ _ (by omega)]; exact h0
  · rw [I_ne hC _ _ (by omega)]; exact h1
  · rw [I_ne hC _ _ (by omega)]; exact h2
  · rw [I_ne hC _ _ (by omega)]; exact h3
  · rw [I_ne hC _ _ (by omega)]; exact h4
  · rw [mI_sI_self]; exact AR_set h5 g v
  · rw [I_ne hC _ _ (by omega)]; exact h6
theorem GC_32 {Y : Ly} {q : Nat → Nat → Nat} {nL W nB : Nat} {M M' : Mm} {G : GSt} {g v : Nat} (hC : SC Y q nL W nB) (h : GC q M G) (e : M' = sI M (q 0 32) (m1 (mI M (q 0 32)) g (nI v))) : GC q M' (gN G, gS G, gM G, gJ G, gL G, m1 (gH G) g v, gT G) := by
  obtain ⟨h0, h1, h2, h3, h4, h5, h6⟩ := h
  subst e
  refine ⟨?_, ?_, ?_, ?_, ?_, ?_, ?_⟩
  · rw [I_ne hC _ _ (by omega)]; exact h0
  · rw [I_ne hC _ _ (by omega)]; exact h1
  · rw [I_ne hC _ _ (by omega)]; exact h2
  · rw [I_ne hC _ _ (by omega)]; exact h3
  · rw [I_ne hC _ _ (by omega)]; exact h4
  · rw [I_ne hC _ _ (by omega)]; exact h5
  · rw [mI_sI_self]; exact AR_set h6 g v
theorem GM_36 {Y : Ly} {q : Nat → Nat → Nat} {nL W nB : Nat} {M M' : Mm} {G : GSt} {g v : Nat} (hC : SC Y q nL W nB) (h : GM q M G) (e : M' = sI M (q 20 36) (m1 (mI M (q 20 36)) g (nI v))) : GM q M' (m1 (gN G) g v, gS G, gM G, gJ G, gL G, gH G, gT G) := by
  obtain ⟨h0, h1, h2, h3, h4, h5, h6⟩ := h
  subst e
  refine ⟨?_, ?_, ?_, ?_, ?_, ?_, ?_⟩
  · rw [I_ne hC _ _ (by omega)]; exact h0
  · rw [mI_sI_self]; exact AR_set h1 g v
  · rw [I_ne hC _ _ (by omega)]; exact h2
  · rw [I_ne hC _ _ (by omega)]; exact h3
  · rw [I_ne hC _ _ (by omega)]; exact h4
  · rw [I_ne hC _ _ (by omega)]; exact h5
  · rw [I_ne hC _ _ (by omega)]; exact h6
theorem GM_35 {Y : Ly} {q : Nat → Nat → Nat} {nL W nB : Nat} {M M' : Mm} {G : GSt} {g v : Nat} (hC : SC Y q nL W nB) (h : GM q M G) (e : M' = sI M (q 20 35) (m1 (mI M (q 20 35)) g (nI v))) : GM q M' (gN G, m1 (gS G) g v, gM G, gJ G, gL G, gH G, gT G) := by
  obtain ⟨h0, h1, h2, h3, h4, h5, h6⟩ := h
  subst e
  refine ⟨?_, ?_, ?_, ?_, ?_, ?_, ?_⟩
  · rw [I_ne hC _ _ (by omega)]; exact h0
  · rw [I_ne hC _ _ (by omega)]; exact h1
  · rw [mI_sI_self]; exact AR_set h2 g v
  · rw [I_ne hC _ _ (by omega)]; exact h3
  · rw [I_ne hC _ _ (by omega)]; exact h4
  · rw [I_ne hC _ _ (by omega)]; exact h5
  · rw [I_ne hC _ _ (by omega)]; exact h6
theorem GM_37 {Y : Ly} {q : Nat → Nat → Nat} {nL W nB : Nat} {M M' : Mm} {G : GSt} {g v : Nat} (hC : SC Y q nL W nB) (h : GM q M G) (e : M' = sI M (q 20 37) (m1 (mI M (q 20 37)) g (nI v))) : GM q M' (gN G, gS G, gM G, gJ G, m1 (gL G) g v, gH G, gT G) := by
  obtain ⟨h0, h1, h2, h3, h4, h5, h6⟩ := h
  subst e
  refine ⟨?_, ?_, ?_, ?_, ?_, ?_, ?_⟩
  · rw [I_ne hC _ _ (by omega)]; exact h0
  · rw [I_ne hC _ _ (by omega)]; exact h1
  · rw [I_ne hC _ _ (by omega)]; exact h2
  · rw [I_ne hC _ _ (by omega)]; exact h3
  · rw [I_ne hC _ _ (by omega)]; exact h4
  · rw [mI_sI_self]; exact AR_set h5 g v
  · rw [I_ne hC _ _ (by omega)]; exact h6
theorem GM_40 {Y : Ly} {q : Nat → Nat → Nat} {nL W nB : Nat} {M M' : Mm} {G : GSt} {g v : Nat} (hC : SC Y q nL W nB) (h : GM q M G) (e : M' = sI M (q 20 40) (m1 (mI M (q 20 40)) g (nI v))) : GM q M' (gN G, gS G, gM G, gJ G, gL G, m1 (gH G) g v, gT G) := by
  obtain ⟨h0, h1, h2, h3, h4, h5, h6⟩ := h
  subst e
  refine ⟨?_, ?_, ?_, ?_, ?_, ?_, ?_⟩
  · rw [I_ne hC _ _ (by omega)]; exact h0
  · rw [I_ne hC _ _ (by omega)]; exact h1
  · rw [I_ne hC _ _ (by omega)]; exact h2
  · rw [I_ne hC _ _ (by omega)]; exact h3
  · rw [I_ne hC _ _ (by omega)]; exact h4
  · rw [I_ne hC _ _ (by omega)]; exact h5
  · rw [mI_sI_self]; exact AR_set h6 g v
theorem AB_set {fn : Nat → Int32} {f : Nat → Nat} (h : AB fn f) {g k v : Nat} {b : Int32} (hg : g < 8) (hk : k < 8) (hb : b = bt1 v k) (ho : ∀ j, j < 8 → j ≠ k → v.testBit j = (f g).testBit j) : AB (m1 fn (8 * g + k) b) (m1 f g v) := by
  intro g' k' hg' hk'
  simp only [m1]
  by_cases e : g' = g
  · subst e
    rw [if_pos rfl]
    by_cases e2 : k' = k
    · subst e2; rw [if_pos rfl]; exact hb
    · rw [if_neg (by omega), h g' k' hg' hk']
      unfold bt1; rw [ho k' hk' e2]
  · rw [if_neg e, if_neg (by omega)]; exact h g' k' hg' hk'
theorem GM_38 {Y : Ly} {q : Nat → Nat → Nat} {nL W nB : Nat} {M M' : Mm} {G : GSt} {g k v : Nat} {b : Int32} (hC : SC Y q nL W nB) (h : GM q M G) (hg : g < 8) (hk : k < 8) (hb : b = bt1 v k) (ho : ∀ j, j < 8 → j ≠ k → v.testBit j = (gM G g).testBit j) (e : M' = sI M (q 20 38) (m1 (mI M (q 20 38)) (8 * g + k) b)) : GM q M' (gN G, gS G, m1 (gM G) g v, gJ G, gL G, gH G, gT G) := by
  obtain ⟨h0, h1, h2, h3, h4, h5, h6⟩ := h
  subst e
  refine ⟨?_, ?_, ?_, ?_, ?_, ?_, ?_⟩
  · rw [I_ne hC _ _ (by omega)]; exact h0
  · rw [I_ne hC _ _ (by omega)]; exact h1
  · rw [I_ne hC _ _ (by omega)]; exact h2
  · rw [mI_sI_self]; exact AB_set h3 hg hk hb ho
  · rw [I_ne hC _ _ (by omega)]; exact h4
  · rw [I_ne hC _ _ (by omega)]; exact h5
  · rw [I_ne hC _ _ (by omega)]; exact h6
theorem GM_39 {Y : Ly} {q : Nat → Nat → Nat} {nL W nB : Nat} {M M' : Mm} {G : GSt} {g k v : Nat} {b : Int32} (hC : SC Y q nL W nB) (h : GM q M G) (hg : g < 8) (hk : k < 8) (hb : b = bt1 v k) (ho : ∀ j, j < 8 → j ≠ k → v.testBit j = (gJ G g).testBit j) (e : M' = sI M (q 20 39) (m1 (mI M (q 20 39)) (8 * g + k) b)) : GM q M' (gN G, gS G, gM G, m1 (gJ G) g v, gL G, gH G, gT G) := by
  obtain ⟨h0, h1, h2, h3, h4, h5, h6⟩ := h
  subst e
  refine ⟨?_, ?_, ?_, ?_, ?_, ?_, ?_⟩
  · rw [I_ne hC _ _ (by omega)]; exact h0
  · rw [I_ne hC _ _ (by omega)]; exact h1
  · rw [I_ne hC _ _ (by omega)]; exact h2
  · rw [I_ne hC _ _ (by omega)]; exact h3
  · rw [mI_sI_self]; exact AB_set h4 hg hk hb ho
  · rw [I_ne hC _ _ (by omega)]; exact h5
  · rw [I_ne hC _ _ (by omega)]; exact h6
theorem GC_fr {Y : Ly} {q : Nat → Nat → Nat} {nL W nB : Nat} {M M' : Mm} {G : GSt} {A : Nat → Nat → Prop} (hC : SC Y q nL W nB) (h : GC q M G) (F : Fr q A M M') (hA : ∀ b, 26 ≤ b → b ≤ 32 → ¬ A 0 b) : GC q M' G := by
  unfold GC
  rw [Fr_I hC F (hA 26 (by omega) (by omega)), Fr_I hC F (hA 27 (by omega) (by omega)), Fr_I hC F (hA 28 (by omega) (by omega)), Fr_I hC F (hA 29 (by omega) (by omega)), Fr_I hC F (hA 30 (by omega) (by omega)), Fr_I hC F (hA 31 (by omega) (by omega)), Fr_I hC F (hA 32 (by omega) (by omega))]
  exact h
theorem GM_ef {Y : Ly} {q : Nat → Nat → Nat} {nL W nB : Nat} {M M' : Mm} {G : GSt} {P : Nat → Nat → Nat → Prop} (hC : SC Y q nL W nB) (h : GM q M G) (F : Ef q P M M') (h4 : ¬ P 20 0 4) (hA : ∀ b j, 35 ≤ b → b ≤ 40 → ¬ P 20 b j) : GM q M' G := by
  unfold GM
  rw [Ef_i F h4, Ef_I F (fun j => hA 36 j (by omega) (by omega)), Ef_I F (fun j => hA 35 j (by omega) (by omega)), Ef_I F (fun j => hA 38 j (by omega) (by omega)), Ef_I F (fun j => hA 39 j (by omega) (by omega)), Ef_I F (fun j => hA 37 j (by omega) (by omega)), Ef_I F (fun j => hA 40 j (by omega) (by omega))]
  exact h
theorem c_empty {Y : Ly} {q : Nat → Nat → Nat} {nL W nB : Nat} {M : Mm} {G : GSt} {g : Nat} {Kn : Mm → Prop} (hC : SC Y q nL W nB) (hR : SR q nL (mR M)) (hGC : GC q M G) (hg : g < 8) (h : ∀ M', Fr q Fg M M' → mJ M' = mJ M → GC q M' (empG G g) → Kn M') : f_X7_makeEmpty Y (q 0 26) (nI g) M Kn := by
  have vin : ∀ b, yN Y b = 8 → vp_in (nI g) (yN Y b) := fun b hb => by rw [hb]; exact vp_in_nI hg (by decide)
  have hgc : (nI g).toNatClampNeg = g := nI_clamp (by omega)
  unfold f_X7_makeEmpty
  refine ⟨sk_0_26 hC, _, sr_0_26_2 hR, sk_0_28 hC, vin _ (sn_0_28 hC), fun M5 e5 => ⟨q 0 29, by rw [e5]; exact sr_0_26_3 hR, sk_0_29 hC, vin _ (sn_0_29 hC), fun M9 e9 => ⟨q 0 30, by rw [e9, e5]; exact sr_0_26_4 hR, sk_0_30 hC, vin _ (sn_0_30 hC), fun M13 e13 => ?_⟩⟩⟩
  rw [hgc] at e5 e9 e13
  have G1 := GC_28 (v := 0) hC hGC e5
  have G2 := GC_29 (v := 0) hC G1 e9
  have G3 := GC_30 (v := 0) hC G2 e13
  refine h M13 (Fr_trans (Fr_e e5 ⟨rfl, by omega⟩) (Fr_trans (Fr_e e9 ⟨rfl, by omega⟩) (Fr_e e13 ⟨rfl, by omega⟩))) (by rw [e13, e9, e5]; rfl) G3
theorem c_has {Y : Ly} {q : Nat → Nat → Nat} {nL W nB : Nat} {M : Mm} {G : GSt} {g k : Nat} {Kn : Int32 → Mm → Prop} (hC : SC Y q nL W nB) (hR : SR q nL (mR M)) (hGC : GC q M G) (hg : g < 8) (hk : k < 8) (hm : gM G g < 256) (h : Kn (bt1 (gM G g) k) M) : f_X7_hasMember Y (q 0 26) (nI g) (nI k) M Kn := by
  unfold f_X7_hasMember f_X7_hasMember_19
  refine ⟨sk_0_26 hC, _, sr_0_26_3 hR, sk_0_29 hC, by rw [sn_0_29 hC]; exact vp_in_nI hg (by decide), ?_⟩
  rw [AR_at hGC.2.2.2.1 hg (by decide), bz_has ⟨_, hm⟩ ⟨k, hk⟩]
  unfold bt1 at h
  by_cases e : (gM G g).testBit k = true
  · rw [if_pos e] at h ⊢
    exact ⟨fun z => absurd rfl z, fun _ => ⟨bz_1, h⟩⟩
  · rw [if_neg e] at h ⊢
    exact ⟨fun _ => ⟨bz_0, h⟩, fun z => absurd z (by decide)⟩
/-! the end of the mixing -/
def SetR (nL W nB g : Nat) (G : GSt) (L : LSt) (G' : GSt) (L' : LSt) : Prop :=
  ((¬ gS G g = 1 ∨ (¬ gJ G g = gM G g ∧ gT G < gL G g)) ∧ G' = G ∧ L' = L) ∨
  (gS G g = 1 ∧ (gJ G g = gM G g ∨ gL G g ≤ gT G) ∧ ((gJ G g = 0 ∧ G' = empG G g ∧ L' = L) ∨ (¬ gJ G g = 0 ∧ ∃ r, ApR nL W nB nL (noteB (nI g) 255 (gT G) (lN (gN G g + 1))) L L' r ∧ G' = if r = 1 then setG G g else G)))
theorem SetR_fun {nL W nB g : Nat} {G G1 G2 : GSt} {L L1 L2 : LSt} (h : SetR nL W nB g G L G1 L1) (h' : SetR nL W nB g G L G2 L2) : G1 = G2 ∧ L1 = L2 := by
  have h61 : 61 ≤ (noteB (nI g) 255 (gT G) (lN (gN G g + 1))).length := by rw [noteB_len]; decide
  rcases h with ⟨a, b, c⟩ | ⟨a, b, h⟩ <;> rcases h' with ⟨a', b', c'⟩ | ⟨a', b', h'⟩
  · exact ⟨b.trans b'.symm, c.trans c'.symm⟩
  · rcases a with z | z
    · exact absurd a' z
    · rcases b' with w | w
      · exact absurd w z.1
      · omega
  · rcases a' with z | z
    · exact absurd a z
    · rcases b with w | w
      · exact absurd w z.1
      · omega
  · rcases h with ⟨c, d, e⟩ | ⟨c, r, d, e⟩ <;> rcases h' with ⟨c', d', e'⟩ | ⟨c', r', d', e'⟩
    · exact ⟨d.trans d'.symm, e.trans e'.symm⟩
    · exact absurd c c'
    · exact absurd c' c
    · obtain ⟨rfl, rfl⟩ := ApR_fun h61 d d'
      exact ⟨e.trans e'.symm, rfl⟩
def Fc (nL : Nat) : Nat → Nat → Prop := fun a b => a = nL + 1 ∨ (a = 0 ∧ (b = 10 ∨ b = 11 ∨ b = 15 ∨ b = 16 ∨ (26 ≤ b ∧ b ≤ 33)))
theorem CL_fr {Y : Ly} {q : Nat → Nat → Nat} {nL W nB : Nat} {M M' : Mm} {st : Nat → Int64} {L : LSt} {A : Nat → Nat → Prop} (hC : SC Y q nL W nB) (h : CL q nL W nB M st L) (F : Fr q A M M') (h10 : ¬ A 0 10) (h11 : ¬ A 0 11) (h13 : ¬ A 0 13) (hA : ∀ l c, ¬ A (l + 1) c) : CL q nL W nB M' st L := by
  obtain ⟨a, b, c, d, e, f⟩ := h
  have i13 := Fr_I hC F h13
  have i10 := Fr_I hC F h10
  refine ⟨⟨by rw [i13]; exact a.1, by rw [i13]; exact a.2.1, fun l hl => by rw [Fr_I hC F (hA l 0)]; exact a.2.2 l hl⟩, by rw [Fr_I hC F h11]; exact b, by rw [i10]; exact c, by rw [i10]; exact d, by rw [i10]; exact e, fun z => LogC_fr hC (f z) F h13 hA⟩
theorem c_own {Y : Ly} {q : Nat → Nat → Nat} {nL W nB : Nat} {M : Mm} {Kn : Nat → Mm → Prop} (hC : SC Y q nL W nB) (hR : SR q nL (mR M)) (h : Kn (q (nL + 1) 0) M) : f_X9_own Y (q 0 13) M Kn := by
  have hd := sdims hC
  unfold f_X9_own
  refine ⟨sk_0_13 hC, q 0 14, sr_0_13_1 hR, q 0 14, sr_0_13_1 hR, sk_0_14 hC, sk_0_14 hC, ?_⟩
  rw [sn_0_14 hC, nI_pred, nI_clamp (by omega)]
  exact ⟨vp_in_nI (by omega) (by omega), q (nL + 1) 0, sr_0_14 hR nL (Nat.le_refl _), h⟩
theorem ApR_dn {nL W nB l : Nat} {bt : Bt} {L L' : LSt} {r : Int32} (h : ApR nL W nB l bt L L' r) (h0 : lD L = 0) : (r = 1 ∧ lD L' = 0) ∨ (r = -2 ∧ L' = L) ∨ (r = -3 ∧ lD L' = 1) := by
  rcases h with ⟨a, b, c⟩ | ⟨T, k, x, l', ad, dn, full, a, b, c, d⟩
  · exact Or.inr (Or.inl ⟨c, b⟩)
  · have e : lD L' = dn := by rcases c with ⟨_, e⟩ | ⟨_, e⟩ <;> rw [e] <;> rfl
    rcases SpR_dn b with z | ⟨z, _⟩
    · rw [z] at d e; exact Or.inl ⟨d, e⟩
    · rw [z] at d e; exact Or.inr (Or.inr ⟨d, e⟩)
theorem nIeq {a b : Nat} {x : Int32} (hx : x = nI b) (ha : a < 2 ^ 31) (hb : b < 2 ^ 31) : nI a = x ↔ a = b := by rw [hx]; exact nI_eq ha hb
theorem c_settle {Y : Ly} {q : Nat → Nat → Nat} {nL W nB : Nat} {M : Mm} {st : Nat → Int64} {L : LSt} {G : GSt} {g n e : Nat} {Kn : Int32 → Mm → Prop} (hC : SC Y q nL W nB) (hR : SR q nL (mR M)) (hG : Geo nL W nB (lS L)) (hCL : CL q nL W nB M st L) (hD0 : lD L = 0) (hlf : LfOK (lL L)) (hGC : GC q M G) (hGI : GI n G) (hn : n < 2 ^ 30) (hg : g < 8) (hend : lE L nL = lN e) (he : e < 2 ^ 62)
    (h : ∀ G' L' M', SetR nL W nB g G L G' L' → GC q M' G' → CL q nL W nB M' st L' → Fr q (Fc nL) M M' → (∀ j, j < 1024 → mI M' (q 0 11) j = mI M (q 0 11) j) → Kn (if lD L' = 0 then 1 else 0) M') : f_X7_settle Y (q 0 26) (nI g) M Kn := by
  have hd := sdims hC
  obtain ⟨i1, i2, i3, i4, i5, i6, i7, i8⟩ := hGI.2.2 g hg
  have ht := hGI.1
  have vin : ∀ b, yN Y b = 8 → vp_in (nI g) (yN Y b) := fun b hb => by rw [hb]; exact vp_in_nI hg (by decide)
  have hgc : (nI g).toNatClampNeg = g := nI_clamp (by omega)
  have aJ := hGC.2.2.2.2.1 g hg
  have aM := hGC.2.2.2.1 g hg
  have aS := hGC.2.2.1 g hg
  have aN := hGC.2.1 g hg
  have aL := hGC.2.2.2.2.2.1 g hg
  have one : SetR nL W nB g G L G L → Kn 1 M := by
    intro hs
    have := h G L M hs hGC hCL (Fr_refl _ _ _) (fun _ _ => rfl)
    rwa [if_pos hD0] at this
  unfold f_X7_settle f_X7_settle_28
  refine ⟨sk_0_26 hC, _, sr_0_26_4 hR, sk_0_30 hC, vin _ (sn_0_30 hC), _, sr_0_26_3 hR, sk_0_29 hC, vin _ (sn_0_29 hC), ?_⟩
  rw [hgc, aJ, aM, nI_eq (by omega) (by omega)]
  have done : (gJ G g = gM G g ∨ gL G g ≤ gT G) → f_X7_settle_33 Y (q 0 26) (nI g) M Kn 1 := by
    intro hdone
    unfold f_X7_settle_33 f_X7_settle_48 f_X7_settle_174
    refine ⟨_, sr_0_26_2 hR, sk_0_28 hC, vin _ (sn_0_28 hC), ?_⟩
    rw [hgc, aS, nIeq (x := 1) (b := 1) rfl (by omega) (by omega)]
    refine ⟨fun c => ⟨bz_1, one (Or.inl ⟨Or.inl c, rfl, rfl⟩)⟩, fun c => ⟨fun _ => ⟨_, sr_0_26_4 hR, sk_0_30 hC, vin _ (sn_0_30 hC), ?_⟩, fun z => absurd z (by decide)⟩⟩
    rw [aJ, nIeq (x := 0) (b := 0) rfl (by omega) (by omega)]
    refine ⟨fun c2 => ⟨_, sr_0_26_1 hR, sk_0_27 hC, vin _ (sn_0_27 hC), ?_⟩, fun c2 => c_empty hC hR hGC hg (fun M' F' J' G' => ⟨bz_1, ?_⟩)⟩
    · rw [aN, nI_1, nI_l (by omega)]
      refine c_note (tm := gT G) hC hR hGC.1 (by omega) (fun M21 F21 J21 L21 => ?_)
      have hR21 : SR q nL (mR M21) := by rw [F21.2]; exact hR
      refine ⟨q 0 13, sr_0_26_7 hR21, q 0 13, sr_0_26_7 hR21, sk_0_13 hC, c_own hC hR21 ⟨sk_0_13 hC, ?_⟩⟩
      have nl := noteB_len (nI g) 255 (gT G) (lN (gN G g + 1))
      have hGC21 : GC q M21 G := GC_fr hC hGC F21 (fun b h1 h2 => by unfold F1; omega)
      have hCL21 : CL q nL W nB M21 st L := CL_fr hC hCL F21 (by simp [F1]) (by simp [F1]) (by simp [F1]) (fun l c => by simp [F1])
      rw [show (78 : Int32) = nI (noteB (nI g) 255 (gT G) (lN (gN G g + 1))).length from by rw [nl]; rfl]
      refine c_app (c := 33) hC hR21 (Nat.le_refl nL) (Or.inr rfl) hG hCL21 hD0 hlf L21 (by omega) (by omega) (by rw [sn_0_33 hC]; omega) ?_
      intro L' r M28 hAp hCL28 F28 hb28
      have hGC28 : GC q M28 G := GC_fr hC hGC21 F28 (fun b h1 h2 => by unfold Ap; omega)
      have hR28 : SR q nL (mR M28) := by rw [F28.2]; exact hR21
      have FF : Fr q (Fc nL) M M28 := Fr_trans (Fr_mono F21 (fun a b z => by unfold F1 at z; unfold Fc; omega)) (Fr_mono F28 (fun a b z => by unfold Ap at z; unfold Fc; omega))
      have bb : ∀ j, j < 1024 → mI M28 (q 0 11) j = mI M (q 0 11) j := fun j hj => by rw [hb28 j hj, Fr_I hC F21 (by simp [F1])]
      have hs : SetR nL W nB g G L (if r = 1 then setG G g else G) L' := Or.inr ⟨c, hdone, Or.inr ⟨c2, r, hAp, rfl⟩⟩
      rcases ApR_dn hAp hD0 with ⟨rfl, hdn⟩ | ⟨rfl, rfl⟩ | ⟨rfl, hdn⟩
      · rw [if_pos rfl] at hs ⊢
        rw [hend]
        have nz : ∀ z : Int64, z = -3 ∨ z = -2 → ¬ lN e = z := by
          intro z hz e1
          have := congrArg Int64.toInt e1
          rw [pk_lT (by omega)] at this
          rcases hz with rfl | rfl
          · have h2 : (-3 : Int64).toInt = -3 := rfl
            omega
          · have h2 : (-2 : Int64).toInt = -2 := rfl
            omega
        refine ⟨fun _ => ⟨fun z => absurd z (nz _ (Or.inr rfl)), fun _ => ?_⟩, fun z => absurd z (nz _ (Or.inl rfl))⟩
        refine ⟨_, sr_0_26_1 hR28, sk_0_27 hC, vin _ (sn_0_27 hC), vin _ (sn_0_27 hC), fun M38 e38 => ⟨q 0 28, by rw [e38]; exact sr_0_26_2 hR28, sk_0_28 hC, vin _ (sn_0_28 hC), fun M42 e42 => ⟨q 0 29, by rw [e42, e38]; exact sr_0_26_3 hR28, q 0 30, by rw [e42, e38]; exact sr_0_26_4 hR28, sk_0_30 hC, vin _ (sn_0_30 hC), sk_0_29 hC, vin _ (sn_0_29 hC), fun M49 e49 => ⟨q 0 32, by rw [e49, e42, e38]; exact sr_0_26_6 hR28, ?_⟩⟩⟩⟩
        rw [hGC28.2.1 g hg, nI_1] at e38
        have G38 := GC_27 hC hGC28 e38
        have G42 := GC_28 (v := 2) hC G38 e42
        have j42 : mI M42 (q 0 30) g = nI (gJ G g) := G42.2.2.2.2.1 g hg
        rw [j42] at e49
        have G49 := GC_29 hC G42 e49
        have t49 : mI M49 (q 0 26) 0 = nI (gT G) := G49.1
        rw [t49, show (8 : Int32) = nI 8 from rfl, pk_mul g 8, nI_add]
        refine s_fillI (sk_0_32 hC) (by rw [sn_0_32 hC]; omega) (by rw [sn_0_32 hC]; decide) ⟨bz_1, ?_⟩
        obtain ⟨M51, e51⟩ : ∃ M51, M51 = sI M49 (q 0 32) (fillR (mI M49 (q 0 32)) (g * 8) (nI (gT G)) 8) := ⟨_, rfl⟩
        rw [← e51]
        have F51 : Fr q Fg M28 M51 := Fr_trans (Fr_e e38 ⟨rfl, by omega⟩) (Fr_trans (Fr_e e42 ⟨rfl, by omega⟩) (Fr_trans (Fr_e e49 ⟨rfl, by omega⟩) (Fr_e e51 ⟨rfl, by omega⟩)))
        have G51 : GC q M51 (setG G g) := by
          obtain ⟨k0, k1, k2, k3, k4, k5, k6⟩ := G49
          rw [e51]
          refine ⟨?_, ?_, ?_, ?_, ?_, ?_, ?_⟩
          · rw [I_ne hC _ _ (by omega)]; exact k0
          · rw [I_ne hC _ _ (by omega)]; exact k1
          · rw [I_ne hC _ _ (by omega)]; exact k2
          · rw [I_ne hC _ _ (by omega)]; exact k3
          · rw [I_ne hC _ _ (by omega)]; exact k4
          · rw [I_ne hC _ _ (by omega)]; exact k5
          · rw [mI_sI_self]
            intro j hj
            rw [fillR_at]
            show _ = nI (fil8 (gH G) g (gT G) j)
            unfold fil8
            by_cases c3 : g * 8 ≤ j ∧ j < g * 8 + 8
            · rw [if_pos c3, if_pos (by omega)]
            · rw [if_neg c3, if_neg (by omega)]; exact k6 j hj
        have := h (setG G g) L' M51 hs G51 (CL_fr hC hCL28 F51 (by unfold Fg; omega) (by unfold Fg; omega) (by unfold Fg; omega) (fun l c => by unfold Fg; omega)) (Fr_trans FF (Fr_mono F51 (fun a b z => by unfold Fg at z; unfold Fc; omega))) (fun j hj => by rw [Fr_I hC F51 (by unfold Fg; omega)]; exact bb j hj)
        rwa [if_pos hdn] at this
      · rw [if_neg (by decide)] at hs
        rw [if_neg (by decide), if_pos rfl]
        refine ⟨fun _ => ⟨fun _ => ⟨bz_1, ?_⟩, fun z => absurd rfl z⟩, fun z => absurd z (by decide)⟩
        have := h G _ M28 hs hGC28 hCL28 FF bb
        rwa [if_pos hD0] at this
      · rw [if_neg (by decide)] at hs
        rw [if_neg (by decide), if_neg (by decide)]
        refine ⟨fun z => absurd rfl z, fun _ => ⟨bz_0, ?_⟩⟩
        have := h G L' M28 hs hGC28 hCL28 FF bb
        rwa [if_neg (by rw [hdn]; decide)] at this
    · have := h (empG G g) L M' (Or.inr ⟨c, hdone, Or.inl ⟨c2, rfl, rfl⟩⟩) G' (CL_fr hC hCL F' (by unfold Fg; omega) (by unfold Fg; omega) (by unfold Fg; omega) (fun l c => by unfold Fg; omega)) (Fr_mono F' (fun a b z => by unfold Fg at z; unfold Fc; omega)) (fun j hj => by rw [Fr_I hC F' (by unfold Fg; omega)])
      rwa [if_pos hD0] at this
  refine ⟨fun c => done (Or.inl c), fun c => ⟨_, sr_0_26_5 hR, sk_0_31 hC, vin _ (sn_0_31 hC), ?_⟩⟩
  rw [aL, hGC.1, nI_ltI (by omega) (by omega)]
  refine ⟨fun c2 => ?_, fun c2 => done (Or.inr (by omega))⟩
  unfold f_X7_settle_33 f_X7_settle_48
  refine ⟨_, sr_0_26_2 hR, sk_0_28 hC, vin _ (sn_0_28 hC), fun _ => ⟨bz_1, one (Or.inl ⟨Or.inr ⟨c, c2⟩, rfl, rfl⟩)⟩, fun _ => ⟨fun z => absurd rfl z, fun _ => ⟨bz_1, one (Or.inl ⟨Or.inr ⟨c, c2⟩, rfl, rfl⟩)⟩⟩⟩
