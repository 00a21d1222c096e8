theorem m_without {Y : Ly} {q : Nat → Nat → Nat} {nL W nB : Nat} {M : Mm} {G : GSt} {g : Nat} {Kn : Mm → Prop} (hC : SC Y q nL W nB) (hM : SM q (mR M)) (hGM : GM q M G) (hg : g < 8) (hm : gM G g < 256) (hs : gS G g ≤ 2) (h : ∀ M', EfH q Pg M M' → GM q M' (if gM G g = 0 then empG G g else if gS G g = 2 then mixG G g else G) → Kn M') : f_X12_without Y (q 20 0) (nI g) M Kn := by
  have vin : ∀ b, yN Y b = 8 → vp_in (nI g) (yN Y b) := fun b hb => by rw [hb]; exact vp_in_nI hg (by decide)
  have hgc : (nI g).toNatClampNeg = g := nI_clamp (by omega)
  unfold f_X12_without f_X12_without_32
  refine ⟨sk_20_0 hC, m_count hC hM hGM hg ?_⟩
  have etot : (fun k => (gM G g).testBit k && (decide ((0 : Int32) = 0) || (gJ G g).testBit k)) = fun k => (gM G g).testBit k := by
    funext k; simp
  rw [etot]
  have lb := cnB_le (fun k => (gM G g).testBit k) 8
  have h0 : cnB (fun k => (gM G g).testBit k) 8 = 0 ↔ gM G g = 0 := by
    rw [cnB_0]
    refine ⟨fun z => t_ext hm (by decide) (fun k hk => ?_), fun z k _ => by rw [z]; simp⟩
    have := z k hk
    simp at this; simp [this]
  rw [nIeq (x := 0) (b := 0) rfl (by omega) (by omega), h0]
  refine ⟨fun c => ⟨_, sm_34 hM, sk_20_35 hC, vin _ (sn_20_35 hC), ?_⟩, fun c => m_empties hC hM hGM hg (fun M' E' G' => h M' E' (by rw [if_pos c]; exact G'))⟩
  rw [if_neg c] at h
  rw [hgc, hGM.2.2.1 g hg, nIeq (x := 2) (b := 2) rfl (by omega) (by omega)]
  exact ⟨fun c2 => h M (EfH_refl _ _ _) (by rw [if_neg c2]; exact hGM), fun c2 => m_mixes hC hM hGM hg (fun M' E' G' => h M' E' (by rw [if_pos c2]; exact G'))⟩
theorem m_tick1 {Y : Ly} {q : Nat → Nat → Nat} {nL W nB : Nat} {M : Mm} {st : Nat → Int64} {L : LSt} {G : GSt} {g n : Nat} {Kn : Mm → Prop} (hC : SC Y q nL W nB) (hM : SM q (mR M)) (hG : Geo nL W nB (lS L)) (hML : ML q nL W nB M st L) (hD0 : lD L = 0) (hlf : LfOK (lL L)) (hGM : GM q M G) (hGI : GI n G) (hn : n < 2 ^ 30) (hg : g < 8)
    (h : ∀ G' L' M', SetR nL W nB g (dropG G g) L G' L' → GM q M' G' → ML q nL W nB M' st L' → Ef q PG M M' → Kn M') : f_X12_tick Y (q 20 0) (nI g) M Kn := by
  have vin : ∀ b, yN Y b = 8 → vp_in (nI g) (yN Y b) := fun b hb => by rw [hb]; exact vp_in_nI hg (by decide)
  have hgc : (nI g).toNatClampNeg = g := nI_clamp (by omega)
  obtain ⟨i1, i2, i3, i4, i5, i6, i7, i8⟩ := hGI.2.2 g hg
  have ht := hGI.1
  have fin : ∀ M', EfH q Pg M M' → GM q M' (dropG G g) → f_X12_tick_77 Y (q 20 0) (nI g) Kn M' := by
    intro M' E' G'
    unfold f_X12_tick_77
    exact ⟨sk_20_0 hC, m_done hC (Ef_SM E'.1 hM) hG (Pg_ML hML E') hD0 hlf G' (GI_drop hGI) hn hg (fun G2 L2 M2 hs gm ml ef => h G2 L2 M2 hs gm ml (Ef_trans (Pg_PG E') ef))⟩
  unfold f_X12_tick
  intro x1 e1
  rw [e88] at e1
  subst e1
  refine LOOP3_inv (fun x2 x3 M4 => ∃ k F, k ≤ 8 ∧ x3 = nI (8 * g + k) ∧ M4 = sI M (q 20 38) F ∧ (gS G g ≠ 2 → k = 0) ∧ (∀ i, F i = if 8 * g ≤ i ∧ i < 8 * g + k then (if lfF G g (i - 8 * g) = true then 1 else 0) else mI M (q 20 38) i) ∧ ((x2 = 0 ∧ ∀ j, j < k → (gM G g).testBit j = true → lfF G g j = true) ∨ (x2 = 1 ∧ ∃ j, j < k ∧ (gM G g).testBit j = true ∧ ¬ lfF G g j = true))) (fun _ x3 _ => 8 * g + 8 - x3.toNatClampNeg) ?_ _ _ _ ⟨0, mI M (q 20 38), by omega, rfl, (sI_same _ _).symm, fun _ => rfl, fun i => by rw [if_neg (by omega)], Or.inl ⟨rfl, fun j hj => by omega⟩⟩
  rintro x2 x3 M4 again ⟨k, F, hk, rfl, rfl, hk0, hF, hx2⟩ hag
  unfold L_X12_tick_7
  have E4 : EfH q Pg M (sI M (q 20 38) F) := EfH_sIr hC rfl (fun j => ⟨rfl, by omega, by omega⟩)
  have v35 : mI (sI M (q 20 38) F) (q 20 35) g = nI (gS G g) := by rw [I_ne hC _ _ (by omega)]; exact hGM.2.2.1 g hg
  rw [e888, nI_cmp (by omega) (by omega)]
  refine ⟨fun c => ?_, fun c => ⟨sk_20_0 hC, _, sm_34 hM, sk_20_35 hC, vin _ (sn_20_35 hC), ?_⟩⟩
  · have hk8 : k = 8 := by omega
    subst hk8
    have hs2 : gS G g = 2 := by
      rcases Nat.decEq (gS G g) 2 with z | z
      · have := hk0 z; omega
      · exact z
    have hj := (i7 hs2).2
    have a1 : GM q (sI M (q 20 38) F) (memG G g (lfM G g)) := GM_sum hC hGM (fun i => by
      rw [hF i]
      by_cases z : 8 * g ≤ i ∧ i < 8 * g + 8
      · rw [if_pos z, if_pos z]
        unfold bt1 lfM
        rw [mskF_t]
        simp [show i - 8 * g < 8 by omega]
      · rw [if_neg z, if_neg z]) rfl
    have mlt := mskF_lt (lfF G g) 8 (Nat.le_refl _)
    have hdr : dropG G g = (if lfM G g = 0 then empG G g else if lfM G g = gM G g then G else mixG (memG G g (lfM G g)) g) := by unfold dropG; rw [if_pos hs2]
    unfold f_X12_tick_68
    rcases hx2 with ⟨rfl, hall⟩ | ⟨rfl, j, hj1, hj2, hj3⟩
    · refine ⟨fun _ => fin _ E4 ?_, fun z => absurd rfl z⟩
      have elf : lfM G g = gM G g := t_ext mlt i3 (fun j hjj => by
        unfold lfM
        rw [mskF_t]
        simp only [hjj, decide_true, Bool.true_and]
        cases e : (gM G g).testBit j with
        | false => unfold lfF; rw [e]; rfl
        | true => exact hall j hjj e)
      have em : memG G g (lfM G g) = G := by
        rw [elf]
        show (gN G, gS G, m1 (gM G) g (gM G g), gJ G, gL G, gH G, gT G) = G
        rw [m1_same]; rfl
      rw [hdr, if_neg (by rw [elf]; exact hj), if_pos elf]
      rwa [em] at a1
    · refine ⟨fun z => absurd z (by decide), fun _ => ⟨sk_20_0 hC, ?_⟩⟩
      have eM : gM (memG G g (lfM G g)) g = lfM G g := m1_at _ _ _
      have eS : gS (memG G g (lfM G g)) g = 2 := hs2
      refine m_without hC hM a1 hg (by rw [eM]; exact mlt) (by rw [eS]; decide) (fun M' E' G' => fin M' (EfH_trans E4 E') ?_)
      rw [eM, eS] at G'
      rw [hdr]
      by_cases z : lfM G g = 0
      · rw [if_pos z] at G' ⊢
        have : empG (memG G g (lfM G g)) g = empG G g := by
          show (gN G, m1 (gS G) g 0, m1 (m1 (gM G) g (lfM G g)) g 0, m1 (gJ G) g 0, gL G, gH G, gT G) = (gN G, m1 (gS G) g 0, m1 (gM G) g 0, m1 (gJ G) g 0, gL G, gH G, gT G)
          rw [m1_m1]
        rwa [this] at G'
      · rw [if_neg z] at G' ⊢
        rw [if_pos rfl] at G'
        rw [if_neg]
        · exact G'
        · intro e
          have : (lfM G g).testBit j = true := by rw [e]; exact hj2
          unfold lfM at this
          rw [mskF_t] at this
          simp [hj1] at this
          exact hj3 this
  · rw [hgc, v35, nIeq (x := 2) (b := 2) rfl (by omega) (by omega)]
    refine ⟨fun c2 => ?_, fun c2 => ?_⟩
    · have hk00 := hk0 c2
      subst hk00
      have eF : F = mI M (q 20 38) := funext (fun i => by rw [hF i, if_neg (by omega)])
      rw [eF, sI_same]
      unfold f_X12_tick_68
      rcases hx2 with ⟨rfl, _⟩ | ⟨_, j, hj1, _⟩
      · exact ⟨fun _ => fin M (EfH_refl _ _ _) (by unfold dropG; rw [if_neg c2]; exact hGM), fun z => absurd rfl z⟩
      · omega
    · have vb : ∀ b, yN Y b = 64 → vp_in (nI (8 * g + k)) (yN Y b) := fun b hb => by rw [hb]; exact vp_in_nI (by omega) (by decide)
      have hk64 : 8 * g + k < 64 := by omega
      have hH := hGI.2.1 _ hk64
      have v38 : mI (sI M (q 20 38) F) (q 20 38) (nI (8 * g + k)).toNatClampNeg = bt1 (gM G g) k := by
        rw [mI_sI_self, nI_clamp (by omega), hF, if_neg (by omega)]; exact hGM.2.2.2.1 g k hg (by omega)
      have nxt : ∀ x20 M21 F', M21 = sI M (q 20 38) F' → (∀ i, F' i = if 8 * g ≤ i ∧ i < 8 * g + (k + 1) then (if lfF G g (i - 8 * g) = true then 1 else 0) else mI M (q 20 38) i) → ((x20 = 0 ∧ ∀ j, j < k + 1 → (gM G g).testBit j = true → lfF G g j = true) ∨ (x20 = 1 ∧ ∃ j, j < k + 1 ∧ (gM G g).testBit j = true ∧ ¬ lfF G g j = true)) → f_X12_tick_62 Y (nI (8 * g + k)) again x20 M21 := by
        intro x20 M21 F' e21 hF' hx x22 e22
        rw [nI_1] at e22
        subst e22
        refine hag _ _ _ ⟨k + 1, F', by omega, rfl, e21, fun z => absurd c2 z, hF', hx⟩ ?_
        rw [nI_clamp (by omega), nI_clamp (by omega)]; omega
      have ext : ∀ v, (if lfF G g k = true then (1 : Int32) else 0) = v → ∀ i, m1 F (8 * g + k) v i = if 8 * g ≤ i ∧ i < 8 * g + (k + 1) then (if lfF G g (i - 8 * g) = true then 1 else 0) else mI M (q 20 38) i := by
        intro v hv i
        simp only [m1]
        by_cases e : i = 8 * g + k
        · rw [if_pos e, if_pos (show 8 * g ≤ i ∧ i < 8 * g + (k + 1) by omega), show i - 8 * g = k by omega, hv]
        · rw [if_neg e, hF]
          by_cases z : 8 * g ≤ i ∧ i < 8 * g + k
          · rw [if_pos z, if_pos (show 8 * g ≤ i ∧ i < 8 * g + (k + 1) by omega)]
          · rw [if_neg z, if_neg (show ¬ (8 * g ≤ i ∧ i < 8 * g + (k + 1)) by omega)]
      have Fk : F (8 * g + k) = bt1 (gM G g) k := by rw [hF, if_neg (by omega)]; exact hGM.2.2.2.1 g k hg (by omega)
      have same : (if lfF G g k = true then (1 : Int32) else 0) = bt1 (gM G g) k → ∀ i, F i = if 8 * g ≤ i ∧ i < 8 * g + (k + 1) then (if lfF G g (i - 8 * g) = true then 1 else 0) else mI M (q 20 38) i := by
        intro e i
        have := ext (bt1 (gM G g) k) e i
        rwa [← Fk, m1_same] at this
      have keep : ((gM G g).testBit k = true → lfF G g k = true) → ((x2 = 0 ∧ ∀ j, j < k + 1 → (gM G g).testBit j = true → lfF G g j = true) ∨ (x2 = 1 ∧ ∃ j, j < k + 1 ∧ (gM G g).testBit j = true ∧ ¬ lfF G g j = true)) := by
        intro hkk
        rcases hx2 with ⟨a, b⟩ | ⟨a, j, b1, b2, b3⟩
        · refine Or.inl ⟨a, fun j hj hm => ?_⟩
          by_cases e : j = k
          · rw [e] at hm ⊢; exact hkk hm
          · exact b j (by omega) hm
        · exact Or.inr ⟨a, j, by omega, b2, b3⟩
      refine ⟨_, sm_37 hM, sk_20_38 hC, vb _ (sn_20_38 hC), ?_⟩
      rw [v38, bt1_0]
      refine ⟨fun z => nxt _ _ F rfl (same ?_) (keep (fun w => absurd w z)), fun z => ⟨_, sm_39 hM, sk_20_40 hC, vb _ (sn_20_40 hC), ?_⟩⟩
      · unfold bt1; rw [if_neg z, if_neg (by unfold lfF; simp [z])]
      · have hmk : (gM G g).testBit k = true := Decidable.not_not.mp z
        rw [I_ne hC _ _ (by omega), I_ne hC _ _ (by omega), hGM.1, nI_clamp (by omega), hGM.2.2.2.2.2.2 _ hk64, pk_sub hH, show (30 : Int32) = nI 30 from rfl, nI_ltI (by omega) (by omega)]
        have elf : lfF G g k = true ↔ gT G - gH G (8 * g + k) < 30 := by unfold lfF; simp [hmk]
        refine ⟨fun w => nxt _ _ F rfl (same ?_) (keep (fun _ => elf.mpr w)), fun w => ⟨_, sm_37 hM, sk_20_38 hC, vb _ (sn_20_38 hC), bz_0, fun M32 e32 => ?_⟩⟩
        · unfold bt1; rw [if_pos hmk, if_pos (elf.mpr w)]
        · rw [mI_sI_self, sI_sI] at e32
          refine nxt 1 M32 (m1 F (8 * g + k) 0) e32 (ext 0 (by rw [if_neg (fun z => w (elf.mp z))])) (Or.inr ⟨rfl, k, by omega, hmk, fun z => w (elf.mp z)⟩)
