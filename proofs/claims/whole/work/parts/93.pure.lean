/-! the model's groups -/
def Pg : Nat → Nat → Nat → Prop := fun a b _ => a = 20 ∧ 35 ≤ b ∧ b ≤ 40
theorem bt1_0 {m k : Nat} : bt1 m k = 0 ↔ ¬ m.testBit k = true := by
  unfold bt1
  split
  · next h => simp [h]
  · next h => simp [h]
theorem AB_at {fn : Nat → Int32} {f : Nat → Nat} (h : AB fn f) {g k : Nat} (hg : g < 8) (hk : k < 8) : fn (nI (8 * g + k)).toNatClampNeg = bt1 (f g) k := by
  rw [nI_clamp (by omega)]; exact h g k hg hk
theorem AB_fill {fn F : Nat → Int32} {f : Nat → Nat} {g v : Nat} (h : AB fn f) (hF : ∀ i, F i = if 8 * g ≤ i ∧ i < 8 * g + 8 then bt1 v (i - 8 * g) else fn i) : AB F (m1 f g v) := by
  intro g' k' hg' hk'
  rw [hF]
  simp only [m1]
  by_cases e : g' = g
  · subst e
    rw [if_pos (by omega), if_pos rfl]; congr 1; omega
  · rw [if_neg (by omega), if_neg e]; exact h g' k' hg' hk'
theorem bt1_z (k : Nat) : bt1 0 k = 0 := by simp [bt1]
theorem GM_sub {Y : Ly} {q : Nat → Nat → Nat} {nL W nB : Nat} {M M' : Mm} {G : GSt} {F : Nat → Int32} {g v : Nat} (hC : SC Y q nL W nB) (h : GM q M G) (hF : ∀ i, F i = if 8 * g ≤ i ∧ i < 8 * g + 8 then bt1 v (i - 8 * g) else mI M (q 20 39) i) (e : M' = sI M (q 20 39) F) : GM q M' (joiG G g v) := by
  obtain ⟨h0, h1, h2, h3, h4, h5, h6⟩ := h
  subst e
  refine ⟨?_, ?_, ?_, ?_, ?_, ?_, ?_⟩
  · rw [I_ne hC _ _ (by omega)]; exact h0
  · rw [I_ne hC _ _ (by omega)]; exact h1
  · rw [I_ne hC _ _ (by omega)]; exact h2
  · rw [I_ne hC _ _ (by omega)]; exact h3
  · rw [mI_sI_self]; exact AB_fill h4 hF
  · rw [I_ne hC _ _ (by omega)]; exact h5
  · rw [I_ne hC _ _ (by omega)]; exact h6
theorem GM_sum {Y : Ly} {q : Nat → Nat → Nat} {nL W nB : Nat} {M M' : Mm} {G : GSt} {F : Nat → Int32} {g v : Nat} (hC : SC Y q nL W nB) (h : GM q M G) (hF : ∀ i, F i = if 8 * g ≤ i ∧ i < 8 * g + 8 then bt1 v (i - 8 * g) else mI M (q 20 38) i) (e : M' = sI M (q 20 38) F) : GM q M' (memG G g v) := by
  obtain ⟨h0, h1, h2, h3, h4, h5, h6⟩ := h
  subst e
  refine ⟨?_, ?_, ?_, ?_, ?_, ?_, ?_⟩
  · rw [I_ne hC _ _ (by omega)]; exact h0
  · rw [I_ne hC _ _ (by omega)]; exact h1
  · rw [I_ne hC _ _ (by omega)]; exact h2
  · rw [mI_sI_self]; exact AB_fill h3 hF
  · rw [I_ne hC _ _ (by omega)]; exact h4
  · rw [I_ne hC _ _ (by omega)]; exact h5
  · rw [I_ne hC _ _ (by omega)]; exact h6
theorem e88 (g : Nat) : (8 : Int32) * nI g = nI (8 * g) := by rw [show (8 : Int32) = nI 8 from rfl]; exact pk_mul 8 g
theorem e88a (g k : Nat) : (8 : Int32) * nI g + nI k = nI (8 * g + k) := by rw [e88, nI_add]
theorem e888 (g : Nat) : (8 : Int32) * nI g + 8 = nI (8 * g + 8) := e88a g 8
theorem m_mixes {Y : Ly} {q : Nat → Nat → Nat} {nL W nB : Nat} {M : Mm} {G : GSt} {g : Nat} {Kn : Mm → Prop} (hC : SC Y q nL W nB) (hM : SM q (mR M)) (hGM : GM q M G) (hg : g < 8) (h : ∀ M', EfH q Pg M M' → GM q M' (mixG G g) → Kn M') : f_X12_mixes Y (q 20 0) (nI g) M Kn := by
  have vin : ∀ b, yN Y b = 8 → vp_in (nI g) (yN Y b) := fun b hb => by rw [hb]; exact vp_in_nI hg (by decide)
  have hgc : (nI g).toNatClampNeg = g := nI_clamp (by omega)
  unfold f_X12_mixes
  refine ⟨sk_20_0 hC, _, sm_34 hM, sk_20_35 hC, vin _ (sn_20_35 hC), fun M5 e5 => ⟨q 20 37, by rw [e5]; exact sm_36 hM, sk_20_37 hC, vin _ (sn_20_37 hC), fun M9 e9 x10 e10 => ?_⟩⟩
  rw [hgc] at e5 e9
  have G5 := GM_35 (v := 1) hC hGM e5
  have t5 : mI M5 (q 20 0) 4 = nI (gT G) := G5.1
  rw [t5, show nI (gT G) + 20 = nI (gT G + 20) from nI_add _ 20] at e9
  have G9 := GM_37 hC G5 e9
  have E9 : EfH q Pg M M9 := EfH_trans (EfH_sI hC e5 ⟨rfl, by omega, by omega⟩) (EfH_sI hC e9 ⟨rfl, by omega, by omega⟩)
  have hM9 := Ef_SM E9.1 hM
  clear e5 e9
  rw [e88] at e10
  subst e10
  refine LOOP2_inv (fun x11 M12 => ∃ k F, k ≤ 8 ∧ x11 = nI (8 * g + k) ∧ M12 = sI M9 (q 20 39) F ∧ ∀ i, F i = if 8 * g ≤ i ∧ i < 8 * g + k then 0 else mI M9 (q 20 39) i) (fun x11 _ => 8 * g + 8 - x11.toNatClampNeg) ?_ _ _ ⟨0, mI M9 (q 20 39), by omega, rfl, (sI_same _ _).symm, fun i => by rw [if_neg (by omega)]⟩
  rintro x11 M12 again ⟨k, F, hk, rfl, rfl, hF⟩ hag
  unfold L_X12_mixes_25
  rw [e888, nI_cmp (by omega) (by omega)]
  refine ⟨fun c => ?_, fun c => ⟨_, sm_38 hM9, sk_20_39 hC, by rw [sn_20_39 hC]; exact vp_in_nI (by omega) (by decide), bz_0, fun M18 e18 x19 e19 => ?_⟩⟩
  · have : k = 8 := by omega
    subst this
    refine h _ (EfH_trans E9 (EfH_sIr hC rfl (fun j => ⟨rfl, by omega, by omega⟩))) ?_
    have := GM_sub (F := F) (g := g) (v := 0) hC G9 (fun i => by rw [hF i, bt1_z]) rfl
    exact this
  · rw [mI_sI_self, sI_sI, nI_clamp (by omega)] at e18
    rw [nI_1] at e19
    subst e18 e19
    refine hag _ _ ⟨k + 1, _, by omega, rfl, rfl, fun i => ?_⟩ ?_
    · simp only [m1]
      by_cases e : i = 8 * g + k
      · rw [if_pos e, if_pos (by omega)]
      · rw [if_neg e, hF]
        by_cases z : 8 * g ≤ i ∧ i < 8 * g + k
        · rw [if_pos z, if_pos (by omega)]
        · rw [if_neg z, if_neg (by omega)]
    · rw [nI_clamp (by omega), nI_clamp (by omega)]; omega
theorem m_empties {Y : Ly} {q : Nat → Nat → Nat} {nL W nB : Nat} {M : Mm} {G : GSt} {g : Nat} {Kn : Mm → Prop} (hC : SC Y q nL W nB) (hM : SM q (mR M)) (hGM : GM q M G) (hg : g < 8) (h : ∀ M', EfH q Pg M M' → GM q M' (empG G g) → Kn M') : f_X12_empties Y (q 20 0) (nI g) M Kn := by
  have vin : ∀ b, yN Y b = 8 → vp_in (nI g) (yN Y b) := fun b hb => by rw [hb]; exact vp_in_nI hg (by decide)
  have hgc : (nI g).toNatClampNeg = g := nI_clamp (by omega)
  unfold f_X12_empties
  refine ⟨sk_20_0 hC, _, sm_34 hM, sk_20_35 hC, vin _ (sn_20_35 hC), fun M5 e5 x6 e6 => ?_⟩
  rw [hgc] at e5
  have G5 := GM_35 (v := 0) hC hGM e5
  have E5 : EfH q Pg M M5 := EfH_sI hC e5 ⟨rfl, by omega, by omega⟩
  have hM5 := Ef_SM E5.1 hM
  clear e5
  rw [e88] at e6
  subst e6
  refine LOOP2_inv (fun x11 M12 => ∃ k F H, k ≤ 8 ∧ x11 = nI (8 * g + k) ∧ M12 = sI (sI M5 (q 20 38) F) (q 20 39) H ∧ (∀ i, F i = if 8 * g ≤ i ∧ i < 8 * g + k then 0 else mI M5 (q 20 38) i) ∧ ∀ i, H i = if 8 * g ≤ i ∧ i < 8 * g + k then 0 else mI M5 (q 20 39) i) (fun x11 _ => 8 * g + 8 - x11.toNatClampNeg) ?_ _ _ ⟨0, mI M5 (q 20 38), mI M5 (q 20 39), by omega, rfl, by rw [sI_same, sI_same], fun i => by rw [if_neg (by omega)], fun i => by rw [if_neg (by omega)]⟩
  rintro x11 M12 again ⟨k, F, H, hk, rfl, rfl, hF, hH⟩ hag
  unfold L_X12_empties_12
  rw [e888, nI_cmp (by omega) (by omega)]
  refine ⟨fun c => ?_, fun c => ⟨_, sm_37 hM5, sk_20_38 hC, by rw [sn_20_38 hC]; exact vp_in_nI (by omega) (by decide), bz_0, fun M14 e14 => ⟨q 20 39, by rw [e14]; exact sm_38 hM5, sk_20_39 hC, by rw [sn_20_39 hC]; exact vp_in_nI (by omega) (by decide), bz_0, fun M19 e19 x20 e20 => ?_⟩⟩⟩
  · have : k = 8 := by omega
    subst this
    refine h _ (EfH_trans E5 (EfH_trans (EfH_sIr hC rfl (fun j => ⟨rfl, by omega, by omega⟩)) (EfH_sIr hC rfl (fun j => ⟨rfl, by omega, by omega⟩)))) ?_
    have a1 := GM_sum (F := F) (g := g) (v := 0) hC G5 (fun i => by rw [hF i, bt1_z]) rfl
    have a2 := GM_sub (F := H) (g := g) (v := 0) hC a1 (fun i => by rw [hH i, bt1_z, I_ne hC _ _ (by omega)]) rfl
    exact a2
  · rw [nI_clamp (by omega)] at e14 e19
    rw [nI_1] at e20
    subst e20
    rw [I_ne hC _ _ (by omega), mI_sI_self, sI_comm _ _ _ (q_ne hC (by omega)), sI_sI] at e14
    rw [e14, mI_sI_self, sI_sI] at e19
    refine hag _ _ ⟨k + 1, m1 F (8 * g + k) 0, m1 H (8 * g + k) 0, by omega, rfl, ?_, fun i => ?_, fun i => ?_⟩ ?_
    · exact e19
    · simp only [m1]
      by_cases e : i = 8 * g + k
      · rw [if_pos e, if_pos (by omega)]
      · rw [if_neg e, hF]
        by_cases z : 8 * g ≤ i ∧ i < 8 * g + k
        · rw [if_pos z, if_pos (by omega)]
        · rw [if_neg z, if_neg (by omega)]
    · simp only [m1]
      by_cases e : i = 8 * g + k
      · rw [if_pos e, if_pos (by omega)]
      · rw [if_neg e, hH]
        by_cases z : 8 * g ≤ i ∧ i < 8 * g + k
        · rw [if_pos z, if_pos (by omega)]
        · rw [if_neg z, if_neg (by omega)]
    · rw [nI_clamp (by omega), nI_clamp (by omega)]; omega
def cnB (f : Nat → Bool) : Nat → Nat
  | 0 => 0
  | n + 1 => cnB f n + (if f n = true then 1 else 0)
theorem cnB_le (f : Nat → Bool) : ∀ n, cnB f n ≤ n
  | 0 => Nat.le_refl _
  | n + 1 => by have := cnB_le f n; simp only [cnB]; split <;> omega
theorem cnB_sub {f h : Nat → Bool} : ∀ {n : Nat}, (∀ k, k < n → f k = true → h k = true) → cnB f n ≤ cnB h n ∧ (cnB h n ≤ cnB f n → ∀ k, k < n → h k = true → f k = true)
  | 0, _ => ⟨Nat.le_refl _, fun _ k hk => by omega⟩
  | n + 1, hs => by
    obtain ⟨a, b⟩ := cnB_sub (n := n) (fun k hk => hs k (by omega))
    have c := hs n (by omega)
    simp only [cnB]
    refine ⟨?_, fun d k hk hh => ?_⟩
    · split
      · next z => rw [if_pos (c z)]; omega
      · split <;> omega
    · by_cases z : f n = true
      · rw [if_pos z, if_pos (c z)] at d
        by_cases e : k = n
        · rw [e]; exact z
        · exact b (by omega) k (by omega) hh
      · rw [if_neg z] at d
        by_cases w : h n = true
        · rw [if_pos w] at d; omega
        · rw [if_neg w] at d
          by_cases e : k = n
          · rw [e] at hh; exact absurd hh w
          · exact b (by omega) k (by omega) hh
theorem cnB_0 {f : Nat → Bool} {n : Nat} : cnB f n = 0 ↔ ∀ k, k < n → ¬ f k = true := by
  induction n with
  | zero => simp [cnB]
  | succ n ih =>
    simp only [cnB]
    refine ⟨fun h k hk => ?_, fun h => ?_⟩
    · have h1 : cnB f n = 0 := by omega
      by_cases e : k = n
      · subst e
        intro z
        rw [if_pos z] at h; omega
      · exact ih.mp h1 k (by omega)
    · rw [ih.mpr (fun k hk => h k (by omega)), if_neg (h n (by omega))]
theorem m_count {Y : Ly} {q : Nat → Nat → Nat} {nL W nB : Nat} {M : Mm} {G : GSt} {g : Nat} {w : Int32} {Kn : Int32 → Mm → Prop} (hC : SC Y q nL W nB) (hM : SM q (mR M)) (hGM : GM q M G) (hg : g < 8) (h : Kn (nI (cnB (fun k => (gM G g).testBit k && (decide (w = 0) || (gJ G g).testBit k)) 8)) M) : f_X12_countOfGroup Y (q 20 0) (nI g) w M Kn := by
  unfold f_X12_countOfGroup
  intro x1 e1
  rw [e88] at e1
  subst e1
  refine LOOP2_inv (fun x2 x3 => ∃ k, k ≤ 8 ∧ x3 = nI (8 * g + k) ∧ x2 = nI (cnB (fun k => (gM G g).testBit k && (decide (w = 0) || (gJ G g).testBit k)) k)) (fun _ x3 => 8 * g + 8 - x3.toNatClampNeg) ?_ _ _ ⟨0, by omega, rfl, rfl⟩
  rintro x2 x3 again ⟨k, hk, rfl, rfl⟩ hag
  unfold L_X12_countOfGroup_8 f_X12_countOfGroup_45 f_X12_countOfGroup_49
  rw [e888, nI_cmp (by omega) (by omega)]
  refine ⟨fun c => by rwa [show k = 8 by omega], fun c => ?_⟩
  have nxt : ∀ y9, y9 = nI (if ((gM G g).testBit k && (decide (w = 0) || (gJ G g).testBit k)) = true then 1 else 0) → f_X12_countOfGroup_50 Y (nI (cnB (fun k => (gM G g).testBit k && (decide (w = 0) || (gJ G g).testBit k)) k)) (nI (8 * g + k)) again y9 := by
    intro y9 e9 x10 e10 x11 e11
    rw [e9, nI_add] at e10
    rw [nI_1] at e11
    subst e10 e11
    refine hag _ _ ⟨k + 1, by omega, rfl, rfl⟩ ?_
    rw [nI_clamp (by omega), nI_clamp (by omega)]; omega
  refine ⟨sk_20_0 hC, _, sm_37 hM, sk_20_38 hC, by rw [sn_20_38 hC]; exact vp_in_nI (by omega) (by decide), ?_⟩
  rw [AB_at hGM.2.2.2.1 hg (by omega), bt1_0]
  refine ⟨fun z => nxt 0 (by rw [if_neg (by simp [z])]; rfl), fun z => ⟨fun z2 => nxt 1 (by rw [if_pos (by simp at z; simp [z, z2])]; rfl), fun z2 => ⟨_, sm_38 hM, sk_20_39 hC, by rw [sn_20_39 hC]; exact vp_in_nI (by omega) (by decide), ?_⟩⟩⟩
  rw [AB_at hGM.2.2.2.2.1 hg (by omega), bt1_0]
  exact ⟨fun z3 => nxt 0 (by rw [if_neg (by simp [z2, z3])]; rfl), fun z3 => nxt 1 (by rw [if_pos (by simp at z z3; simp [z, z3])]; rfl)⟩
def PG : Nat → Nat → Nat → Prop := fun a b j => PN a b j ∨ Pg a b j
theorem Pg_ML {q : Nat → Nat → Nat} {nL W nB : Nat} {M M' : Mm} {st : Nat → Int64} {L : LSt} (h : ML q nL W nB M st L) (E : EfH q Pg M M') : ML q nL W nB M' st L := by
  obtain ⟨⟨B, hp, ht, hLM⟩, a, b, c⟩ := h
  refine ⟨⟨B, hp, ht, LogM_ef hLM E (fun a b j z => by unfold PLg at z; unfold Pg; omega)⟩, ?_, ?_, ?_⟩
  · rw [Ef_i E.1 (by unfold Pg; omega)]; exact a
  · rw [Ef_i E.1 (by unfold Pg; omega)]; exact b
  · rw [Ef_i E.1 (by unfold Pg; omega)]; exact c
theorem Pg_PG {q : Nat → Nat → Nat} {M M' : Mm} (E : EfH q Pg M M') : Ef q PG M M' := Ef_mono E.1 (fun a b j z => Or.inr z)
theorem m_done {Y : Ly} {q : Nat → Nat → Nat} {nL W nB : Nat} {M : Mm} {st : Nat → Int64} {L : LSt} {G : GSt} {g n : Nat} {Kn : Mm → Prop} (hC : SC Y q nL W nB) (hM : SM q (mR M)) (hG : Geo nL W nB (lS L)) (hML : ML q nL W nB M st L) (hD0 : lD L = 0) (hlf : LfOK (lL L)) (hGM : GM q M G) (hGI : GI n G) (hn : n < 2 ^ 30) (hg : g < 8)
    (h : ∀ G' L' M', SetR nL W nB g G L G' L' → GM q M' G' → ML q nL W nB M' st L' → Ef q PG M M' → Kn M') : f_X12_mayBeDone Y (q 20 0) (nI g) M Kn := by
  have vin : ∀ b, yN Y b = 8 → vp_in (nI g) (yN Y b) := fun b hb => by rw [hb]; exact vp_in_nI hg (by decide)
  have hgc : (nI g).toNatClampNeg = g := nI_clamp (by omega)
  obtain ⟨i1, i2, i3, i4, i5, i6, i7, i8⟩ := hGI.2.2 g hg
  have ht := hGI.1
  have same : SetR nL W nB g G L G L → Kn M := fun hs => h G L M hs hGM hML (Ef_refl _ _ _)
  unfold f_X12_mayBeDone
  refine ⟨sk_20_0 hC, _, sm_34 hM, sk_20_35 hC, vin _ (sn_20_35 hC), ?_⟩
  rw [hgc, hGM.2.2.1 g hg, nIeq (x := 1) (b := 1) rfl (by omega) (by omega)]
  refine ⟨fun c1 => m_count hC hM hGM hg (m_count hC hM hGM hg ?_), fun c1 => same (Or.inl ⟨Or.inl c1, rfl, rfl⟩)⟩
  have ecame : (fun k => (gM G g).testBit k && (decide ((1 : Int32) = 0) || (gJ G g).testBit k)) = fun k => (gM G g).testBit k && (gJ G g).testBit k := by
    funext k; simp
  have etot : (fun k => (gM G g).testBit k && (decide ((0 : Int32) = 0) || (gJ G g).testBit k)) = fun k => (gM G g).testBit k := by
    funext k; simp
  rw [ecame, etot]
  obtain ⟨ca, hca⟩ : ∃ ca, ca = cnB (fun k => (gM G g).testBit k && (gJ G g).testBit k) 8 := ⟨_, rfl⟩
  obtain ⟨cb, hcb⟩ : ∃ cb, cb = cnB (fun k => (gM G g).testBit k) 8 := ⟨_, rfl⟩
  have la := cnB_le (fun k => (gM G g).testBit k && (gJ G g).testBit k) 8
  have lb := cnB_le (fun k => (gM G g).testBit k) 8
  have hsub := cnB_sub (f := fun k => (gM G g).testBit k && (gJ G g).testBit k) (h := fun k => (gM G g).testBit k) (n := 8) (fun k _ z => by simp at z; exact z.1)
  have h0 : ca = 0 ↔ gJ G g = 0 := by
    rw [hca, cnB_0]
    refine ⟨fun z => t_ext i4 (by decide) (fun k hk => ?_), fun z k _ => by rw [z]; simp⟩
    have := z k hk
    cases e : (gJ G g).testBit k with
    | false => simp
    | true => rw [i5 k hk e, e] at this; simp at this
  have heq : cb ≤ ca ↔ gJ G g = gM G g := by
    rw [hca, hcb]
    refine ⟨fun z => t_ext i4 i3 (fun k hk => ?_), fun z => ?_⟩
    · have := hsub.2 z k hk
      cases e : (gM G g).testBit k with
      | false =>
        cases e2 : (gJ G g).testBit k with
        | false => rfl
        | true => rw [i5 k hk e2] at e; cases e
      | true => have := this e; simp [e] at this; exact this
    · rw [z]; simp
  rw [← hca, ← hcb] at *
  clear hca hcb ecame etot hsub
  rw [nI_cmp (by omega) (by omega), heq]
  have fin : (gJ G g = gM G g ∨ gL G g ≤ gT G) → f_X12_mayBeDone_42 Y (q 20 0) (nI g) Kn (nI ca) M := by
    intro hdone
    unfold f_X12_mayBeDone_42
    rw [nIeq (x := 0) (b := 0) rfl (by omega) (by omega), h0]
    refine ⟨fun c2 => ⟨_, sm_35 hM, sk_20_36 hC, vin _ (sn_20_36 hC), ?_⟩, fun c2 => m_empties hC hM hGM hg (fun M' E' G' => h (empG G g) L M' (Or.inr ⟨c1, hdone, Or.inl ⟨c2, rfl, rfl⟩⟩) G' (Pg_ML hML E') (Pg_PG E'))⟩
    rw [hgc, hGM.2.1 g hg, nI_l (by omega), lN_1]
    refine m_notes (o := 255) hC hM hG hML hD0 hlf hGM.1 (by omega) (by omega) (by decide) ?_
    intro L' r M14 hA hML' E'
    have hs : SetR nL W nB g G L (if r = 1 then setG G g else G) L' := Or.inr ⟨c1, hdone, Or.inr ⟨c2, r, hA, rfl⟩⟩
    have G14 : GM q M14 G := GM_ef hC hGM E' (by unfold PN PA; omega) (fun b j h1 h2 => by unfold PN PA; omega)
    have E14 : Ef q PG M M14 := Ef_mono E' (fun a b j z => Or.inl z)
    have hM14 := Ef_SM E14 hM
    refine ⟨fun c3 x17 e17 => ?_, fun c3 => ?_⟩
    · rw [if_pos c3] at hs
      rw [e88] at e17
      subst e17
      refine LOOP2_inv (fun x18 M19 => ∃ k F H, k ≤ 8 ∧ x18 = nI (8 * g + k) ∧ M19 = sI (sI M14 (q 20 38) F) (q 20 40) H ∧ (∀ i, F i = if 8 * g ≤ i ∧ i < 8 * g + k then bt1 (gJ G g) (i - 8 * g) else mI M14 (q 20 38) i) ∧ ∀ i, H i = if 8 * g ≤ i ∧ i < 8 * g + k then nI (gT G) else mI M14 (q 20 40) i) (fun x11 _ => 8 * g + 8 - x11.toNatClampNeg) ?_ _ _ ⟨0, mI M14 (q 20 38), mI M14 (q 20 40), by omega, rfl, by rw [sI_same, sI_same], fun i => by rw [if_neg (by omega)], fun i => by rw [if_neg (by omega)]⟩
      rintro x18 M19 again ⟨k, F, H, hk, rfl, rfl, hF, hH⟩ hag
      unfold L_X12_mayBeDone_79 f_X12_mayBeDone_117
      rw [e888, nI_cmp (by omega) (by omega)]
      refine ⟨fun c => ⟨_, sm_35 hM14, sk_20_36 hC, vin _ (sn_20_36 hC), vin _ (sn_20_36 hC), fun M25 e25 => ⟨q 20 35, by rw [e25]; exact sm_34 hM14, sk_20_35 hC, vin _ (sn_20_35 hC), fun M29 e29 => ?_⟩⟩, fun c => ?_⟩
      · have : k = 8 := by omega
        subst this
        obtain ⟨M19, e19⟩ : ∃ M19, M19 = sI (sI M14 (q 20 38) F) (q 20 40) H := ⟨_, rfl⟩
        rw [← e19] at e25
        have a1 := GM_sum hC G14 hF rfl
        have a2 : GM q M19 (gN G, gS G, m1 (gM G) g (gJ G g), gJ G, gL G, fil8 (gH G) g (gT G), gT G) := by
          obtain ⟨k0, k1, k2, k3, k4, k5, k6⟩ := a1
          rw [e19]
          refine ⟨?_, ?_, ?_, ?_, ?_, ?_, ?_⟩
          · rw [I_ne hC _ _ (by omega)]; exact k0
          · rw [I_ne hC _ _ (by omega)]; exact k1
          · rw [I_ne hC _ _ (by omega)]; exact k2
          · rw [I_ne hC _ _ (by omega)]; exact k3
          · rw [I_ne hC _ _ (by omega)]; exact k4
          · rw [I_ne hC _ _ (by omega)]; exact k5
          · rw [mI_sI_self]
            intro j hj
            rw [hH]
            show _ = nI (fil8 (gH G) g (gT G) j)
            unfold fil8
            split
            · rfl
            · exact G14.2.2.2.2.2.2 j hj
        rw [hgc, a2.2.1 g hg, nI_1] at e25
        have a3 := GM_36 hC a2 e25
        rw [hgc] at e29
        have a4 := GM_35 (v := 2) hC a3 e29
        have E29 : EfH q Pg M14 M29 := EfH_trans (EfH_trans (EfH_sIr hC rfl (fun j => ⟨rfl, by omega, by omega⟩)) (EfH_sIr hC e19 (fun j => ⟨rfl, by omega, by omega⟩))) (EfH_trans (EfH_sI hC e25 ⟨rfl, by omega, by omega⟩) (EfH_sI hC e29 ⟨rfl, by omega, by omega⟩))
        exact h (setG G g) L' M29 hs a4 (Pg_ML hML' E29) (Ef_trans E14 (Pg_PG E29))
      · have vb : ∀ b, yN Y b = 64 → vp_in (nI (8 * g + k)) (yN Y b) := fun b hb => by rw [hb]; exact vp_in_nI (by omega) (by decide)
        have vF : mI (sI (sI M14 (q 20 38) F) (q 20 40) H) (q 20 38) (nI (8 * g + k)).toNatClampNeg = bt1 (gM G g) k := by
          rw [I_ne hC _ _ (by omega), mI_sI_self, nI_clamp (by omega), hF, if_neg (by omega)]; exact G14.2.2.2.1 g k hg (by omega)
        have vJ : mI (sI (sI M14 (q 20 38) F) (q 20 40) H) (q 20 39) (nI (8 * g + k)).toNatClampNeg = bt1 (gJ G g) k := by
          rw [I_ne hC _ _ (by omega), I_ne hC _ _ (by omega), nI_clamp (by omega)]; exact G14.2.2.2.2.1 g k hg (by omega)
        have nxt : ∀ y34, y34 = bt1 (gJ G g) k → f_X12_mayBeDone_118 Y (q 20 0) (nI (8 * g + k)) (sI (sI M14 (q 20 38) F) (q 20 40) H) again (q 20 38) y34 := by
          intro y34 e34
          unfold f_X12_mayBeDone_118
          refine ⟨sk_20_38 hC, vb _ (sn_20_38 hC), ?_, fun M38 e38 => ⟨q 20 40, by rw [e38]; exact sm_39 hM14, sk_20_40 hC, vb _ (sn_20_40 hC), fun M42 e42 x43 e43 => ?_⟩⟩
          · rw [e34]; unfold bt1; split
            · exact bz_1
            · exact bz_0
          have t38 : mI M38 (q 20 0) 4 = nI (gT G) := by rw [e38, I_ne hC _ _ (by omega), I_ne hC _ _ (by omega), I_ne hC _ _ (by omega)]; exact G14.1
          rw [nI_clamp (by omega)] at e38 e42
          rw [t38] at e42
          rw [nI_1] at e43
          subst e43
          rw [I_ne hC _ _ (by omega), mI_sI_self, sI_comm _ _ _ (q_ne hC (by omega)), sI_sI] at e38
          rw [e38, mI_sI_self, sI_sI] at e42
          refine hag _ _ ⟨k + 1, m1 F (8 * g + k) y34, m1 H (8 * g + k) (nI (gT G)), by omega, rfl, ?_, fun i => ?_, fun i => ?_⟩ ?_
          · exact e42
          · simp only [m1]
            by_cases e : i = 8 * g + k
            · rw [if_pos e, if_pos (by omega), e34]; congr 1; omega
            · rw [if_neg e, hF]
              by_cases z : 8 * g ≤ i ∧ i < 8 * g + k
              · rw [if_pos z, if_pos (by omega)]
              · rw [if_neg z, if_neg (by omega)]
          · simp only [m1]
            by_cases e : i = 8 * g + k
            · rw [if_pos e, if_pos (by omega)]
            · rw [if_neg e, hH]
              by_cases z : 8 * g ≤ i ∧ i < 8 * g + k
              · rw [if_pos z, if_pos (by omega)]
              · rw [if_neg z, if_neg (by omega)]
          · rw [nI_clamp (by omega), nI_clamp (by omega)]; omega
        refine ⟨_, sm_37 hM14, _, sm_37 hM14, sk_20_38 hC, vb _ (sn_20_38 hC), ?_⟩
        rw [vF, bt1_0]
        refine ⟨fun z => nxt 0 ?_, fun z => ⟨_, sm_38 hM14, sk_20_39 hC, vb _ (sn_20_39 hC), ?_⟩⟩
        · rw [eq_comm, bt1_0]; exact fun w => z (i5 k (by omega) w)
        · rw [vJ, bt1_0]
          exact ⟨fun w => nxt 0 (by rw [eq_comm, bt1_0]; exact w), fun w => nxt 1 (by unfold bt1; rw [if_pos (Decidable.not_not.mp w)])⟩
    · rw [if_neg c3] at hs
      exact h G L' M14 hs G14 hML' E14
  refine ⟨fun c => fin (Or.inl c), fun c => ⟨_, sm_36 hM, sk_20_37 hC, vin _ (sn_20_37 hC), ?_⟩⟩
  rw [hGM.2.2.2.2.2.1 g hg, hGM.1, nI_cmp (by omega) (by omega)]
  exact ⟨fun c2 => fin (Or.inr c2), fun c2 => same (Or.inl ⟨Or.inr ⟨c, by omega⟩, rfl, rfl⟩)⟩
