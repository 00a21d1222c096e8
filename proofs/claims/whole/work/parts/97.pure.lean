theorem m_leave20 {Y : Ly} {q : Nat → Nat → Nat} {nL W nB : Nat} {M : Mm} {st : Nat → Int64} {L : LSt} {G : GSt} {g k n : Nat} {Kn : Int32 → Mm → Prop} (hC : SC Y q nL W nB) (hM : SM q (mR M)) (hG : Geo nL W nB (lS L)) (hML : ML q nL W nB M st L) (hD0 : lD L = 0) (hlf : LfOK (lL L)) (hGM : GM q M G) (hGI : GI n G) (hn : n < 2 ^ 30) (hg : g < 8) (hk : k < 8) (h8 : ¬ (gM G g).testBit k = true → Kn (-8) (cd q M 0))
    (h : (gM G g).testBit k = true → ∀ G' L' M', SetR nL W nB g (leavG G g k) L G' L' → GM q M' G' → ML q nL W nB M' st L' → Ef q PG (cd q M 0) M' → Kn (if lD L' = 0 then 1 else -3) M') : f_X12_leave_20 Y (q 20 0) (nI g) (nI k) Kn 1 M := by
  have vb : ∀ b, yN Y b = 64 → vp_in (nI (8 * g + k)) (yN Y b) := fun b hb => by rw [hb]; exact vp_in_nI (by omega) (by decide)
  have hkc : (nI (8 * g + k)).toNatClampNeg = 8 * g + k := nI_clamp (by omega)
  obtain ⟨p, b', c, d, ee, f, i, j⟩ := hGI.2.2 g hg
  unfold f_X12_leave_20
  refine ⟨sk_20_0 hC, m_goes hC (fun _ _ => ⟨fun _ => ?_, fun z => absurd z (by decide)⟩) (fun _ z => absurd (hML.2.2.2.trans hD0) z) (fun z => absurd z (by decide))⟩
  have E0 := cd_E hC M 0
  have hM0 : SM q (mR (cd q M 0)) := Ef_SM E0.1 hM
  have gm0 : GM q (cd q M 0) G := GM_ef hC hGM E0.1 (by unfold P0; omega) (fun b j h1 h2 => by unfold P0; omega)
  have ml0 : ML q nL W nB (cd q M 0) st L := ML_ef hML E0 (fun a b j z => by unfold PLg at z; unfold P0; omega) (by unfold P0; omega) (by unfold P0; omega) (by unfold P0; omega)
  generalize cd q M 0 = N at *
  clear E0 hM hML hGM
  rw [e88a]
  refine ⟨_, sm_37 hM0, sk_20_38 hC, vb _ (sn_20_38 hC), ?_⟩
  rw [AB_at gm0.2.2.2.1 hg hk, bt1_0]
  refine ⟨fun z => ?_, fun z => h8 z⟩
  have hm : (gM G g).testBit k = true := Decidable.not_not.mp z
  have h := h hm
  have hGI2 := GI_leav hGI hg hk hm
  refine ⟨_, sm_37 hM0, sk_20_38 hC, vb _ (sn_20_38 hC), bz_0, fun M17 e17 => ⟨q 20 39, by rw [e17]; exact sm_38 hM0, sk_20_39 hC, vb _ (sn_20_39 hC), bz_0, fun M22 e22 => ?_⟩⟩
  rw [hkc] at e17 e22
  have kt : ∀ a, a < 256 → (0 : Int32) = bt1 (a &&& (255 ^^^ 2 ^ k)) k := fun a ha => by
    have := bn_t ⟨a, ha⟩ ⟨k, hk⟩ ⟨k, hk⟩
    dsimp only at this
    unfold bt1; rw [this, if_pos rfl]; rfl
  have ot : ∀ a, a < 256 → ∀ j, j < 8 → j ≠ k → (a &&& (255 ^^^ 2 ^ k)).testBit j = a.testBit j := fun a ha j hj hne => by
    have := bn_t ⟨a, ha⟩ ⟨k, hk⟩ ⟨j, hj⟩
    dsimp only at this
    rw [this, if_neg hne]
  have G17 := GM_38 (v := gM G g &&& (255 ^^^ 2 ^ k)) hC gm0 hg hk (kt _ c) (ot _ c) e17
  have G22 := GM_39 (v := gJ G g &&& (255 ^^^ 2 ^ k)) hC G17 hg hk (kt _ d) (ot _ d) e22
  have E22 : EfH q Pg N M22 := EfH_trans (EfH_sI hC e17 ⟨rfl, by omega, by omega⟩) (EfH_sI hC e22 ⟨rfl, by omega, by omega⟩)
  obtain ⟨G1, eG1⟩ : ∃ G1, G1 = joiG (memG G g (gM G g &&& (255 ^^^ 2 ^ k))) g (gJ G g &&& (255 ^^^ 2 ^ k)) := ⟨_, rfl⟩
  have G22' : GM q M22 G1 := by rw [eG1]; exact G22
  have eLv : leavG G g k = if gM G1 g = 0 then empG G1 g else if gS G1 g = 2 then mixG G1 g else G1 := by rw [eG1]; rfl
  have m1lt : gM G1 g < 256 := by rw [eG1]; show m1 (gM G) g _ g < 256; rw [m1_at]; exact bn_lt ⟨_, c⟩ ⟨k, hk⟩
  have s1le : gS G1 g ≤ 2 := by rw [eG1]; exact b'
  refine m_without hC (Ef_SM E22.1 hM0) G22' hg m1lt s1le (fun M23 E23 G23 => ?_)
  rw [← eLv] at G23
  have E := EfH_trans E22 E23
  refine m_done hC (Ef_SM E.1 hM0) hG (Pg_ML ml0 E) hD0 hlf G23 hGI2 hn hg ?_
  intro G' L' M24 hs gm' ml' ef'
  have key := h G' L' M24 hs gm' ml' (Ef_trans (Pg_PG E) ef')
  unfold f_X12_leave_92
  rw [ml'.2.2.2]
  exact ⟨fun z => by rwa [if_pos z] at key, fun z => by rwa [if_neg z] at key⟩
theorem m_beat20 {Y : Ly} {q : Nat → Nat → Nat} {nL W nB : Nat} {M : Mm} {G : GSt} {g k n : Nat} {told : Int32} {Kn : Int32 → Mm → Prop} (hC : SC Y q nL W nB) (hM : SM q (mR M)) (h5 : mI M (q 20 0) 5 = 0) (hGM : GM q M G) (hGI : GI n G) (hg : g < 8) (hk : k < 8) (h0 : ¬ (gM G g).testBit k = true → Kn (-8) (cd q M 0)) (h1 : (gM G g).testBit k = true → ¬ told = nI (gN G g) → Kn (-9) (cd q M 0)) (h : (gM G g).testBit k = true → told = nI (gN G g) → ∀ M', EfH q Pg (cd q M 0) M' → GM q M' (heaG G (8 * g + k)) → Kn (if (gJ G g).testBit k = true then 0 else 1) M') : f_X12_beat_20 Y (q 20 0) (nI g) (nI k) told Kn 1 M := by
  have vin : ∀ b, yN Y b = 8 → vp_in (nI g) (yN Y b) := fun b hb => by rw [hb]; exact vp_in_nI hg (by decide)
  have vb : ∀ b, yN Y b = 64 → vp_in (nI (8 * g + k)) (yN Y b) := fun b hb => by rw [hb]; exact vp_in_nI (by omega) (by decide)
  have hgc : (nI g).toNatClampNeg = g := nI_clamp (by omega)
  have hkc : (nI (8 * g + k)).toNatClampNeg = 8 * g + k := nI_clamp (by omega)
  obtain ⟨p, b', c, d, ee, f, i, j⟩ := hGI.2.2 g hg
  unfold f_X12_beat_20 f_X12_beat_117 f_X12_beat_118
  refine ⟨sk_20_0 hC, m_goes hC (fun _ _ => ⟨fun _ => ?_, fun z => absurd z (by decide)⟩) (fun _ z => absurd h5 z) (fun z => absurd z (by decide))⟩
  have E0 := cd_E hC M 0
  have hM0 : SM q (mR (cd q M 0)) := Ef_SM E0.1 hM
  have gm0 : GM q (cd q M 0) G := GM_ef hC hGM E0.1 (by unfold P0; omega) (fun b j h1 h2 => by unfold P0; omega)
  generalize cd q M 0 = N at *
  clear E0 hM hGM
  rw [e88a]
  have bad : ∀ v : Int32, ((¬ (gM G g).testBit k = true → v = -8) ∧ ((gM G g).testBit k = true → v = -9)) → Kn v N → f_X12_beat_52 Y (q 20 0) (nI g) (nI k) Kn N := by
    intro v hv hK
    unfold f_X12_beat_52 f_X12_beat_73
    rw [e88a]
    refine ⟨_, sm_37 hM0, sk_20_38 hC, vb _ (sn_20_38 hC), ?_⟩
    rw [AB_at gm0.2.2.2.1 hg hk, bt1_0]
    exact ⟨fun z => by rw [← hv.1 z]; exact hK, fun z => by rw [← hv.2 (Decidable.not_not.mp z)]; exact hK⟩
  refine ⟨_, sm_37 hM0, sk_20_38 hC, vb _ (sn_20_38 hC), ?_⟩
  rw [AB_at gm0.2.2.2.1 hg hk, bt1_0]
  refine ⟨fun z => bad (-8) ⟨fun _ => rfl, fun w => absurd w z⟩ (h0 z), fun z => ?_⟩
  have hm : (gM G g).testBit k = true := Decidable.not_not.mp z
  refine ⟨_, sm_35 hM0, sk_20_36 hC, vin _ (sn_20_36 hC), ?_⟩
  rw [hgc, gm0.2.1 g hg]
  refine ⟨fun w => ⟨_, sm_39 hM0, sk_20_40 hC, vb _ (sn_20_40 hC), fun M25 e25 => ⟨q 20 35, by rw [e25]; exact sm_34 hM0, sk_20_35 hC, vin _ (sn_20_35 hC), ?_⟩⟩, fun w => bad (-9) ⟨fun y => absurd hm y, fun _ => rfl⟩ (h1 hm w)⟩
  rw [hkc, gm0.1] at e25
  have G25 := GM_40 hC gm0 e25
  have key := h hm w M25 (EfH_sI hC e25 ⟨rfl, by omega, by omega⟩) G25
  have s25 : mI M25 (q 20 35) g = nI (gS G g) := G25.2.2.1 g hg
  have j25 : mI M25 (q 20 39) (8 * g + k) = bt1 (gJ G g) k := G25.2.2.2.2.1 g k hg hk
  rw [s25, nIeq (x := 1) (b := 1) rfl (by omega) (by omega)]
  refine ⟨fun y => ?_, fun y => ⟨q 20 39, by rw [e25]; exact sm_38 hM0, sk_20_39 hC, vb _ (sn_20_39 hC), ?_⟩⟩
  · have s2 : gS G g = 2 := by
      rcases (show gS G g = 0 ∨ gS G g = 1 ∨ gS G g = 2 by omega) with e | e | e
      · rw [(j e).1] at hm; simp at hm
      · exact absurd e y
      · exact e
    rw [if_pos (by rw [(i s2).1]; exact hm)] at key
    exact key
  · rw [hkc, j25, bt1_0]
    exact ⟨fun y2 => by rw [if_pos (Decidable.not_not.mp y2)] at key; exact key, fun y2 => by rw [if_neg y2] at key; exact key⟩
theorem m_commit34 {Y : Ly} {q : Nat → Nat → Nat} {nL W nB : Nat} {M : Mm} {st : Nat → Int64} {L : LSt} {G : GSt} {g k l n : Nat} {told : Int32} {off : Int64} {Kn : Int32 → Mm → Prop} (hC : SC Y q nL W nB) (hM : SM q (mR M)) (hG : Geo nL W nB (lS L)) (hML : ML q nL W nB M st L) (hD0 : lD L = 0) (hlf : LfOK (lL L)) (hGM : GM q M G) (hGI : GI n G) (hg : g < 8) (hk : k < 8) (hl : l < nL)
    (h8 : ¬ (gM G g).testBit k = true → Kn (-8) (cd q M 0)) (h9 : (gM G g).testBit k = true → ¬ told = nI (gN G g) → Kn (-9) (cd q M 0)) (h10 : (gM G g).testBit k = true → told = nI (gN G g) → ¬ gS G g = 2 → Kn (-10) (cd q M 0)) (h11 : (gM G g).testBit k = true → told = nI (gN G g) → gS G g = 2 → ¬ isO (gM G g) k l = true → Kn (-11) (cd q M 0)) (h12 : (gM G g).testBit k = true → told = nI (gN G g) → gS G g = 2 → isO (gM G g) k l = true → ¬ (st l ≤ off ∧ off ≤ lE L l) → Kn (-12) (cd q M 0))
    (h : (gM G g).testBit k = true → told = nI (gN G g) → gS G g = 2 → isO (gM G g) k l = true → (st l ≤ off ∧ off ≤ lE L l) → ∀ L' r M', ApR nL W nB nL (comB g l (gT G) off) L L' r → GM q M' (if r = 1 then heaG G (8 * g + k) else G) → ML q nL W nB M' st L' → Ef q PG (cd q M 0) M' → Kn (if r = 1 then 0 else r) M') : f_X12_commit_34 Y (q 20 0) (nI g) (nI k) told (nI l) off Kn 1 M := by
  have hd := sdims hC
  have vin : ∀ b, yN Y b = 8 → vp_in (nI g) (yN Y b) := fun b hb => by rw [hb]; exact vp_in_nI hg (by decide)
  have vb : ∀ b, yN Y b = 64 → vp_in (nI (8 * g + k)) (yN Y b) := fun b hb => by rw [hb]; exact vp_in_nI (by omega) (by decide)
  have vl : ∀ b, yN Y b = 9 → vp_in (nI l) (yN Y b) := fun b hb => by rw [hb]; exact vp_in_nI (by omega) (by decide)
  have hgc : (nI g).toNatClampNeg = g := nI_clamp (by omega)
  have hlc : (nI l).toNatClampNeg = l := nI_clamp (by omega)
  have hkc : (nI (8 * g + k)).toNatClampNeg = 8 * g + k := nI_clamp (by omega)
  obtain ⟨p, b', c, d, ee, f, i, j⟩ := hGI.2.2 g hg
  have ht := hGI.1
  unfold f_X12_commit_34 f_X12_commit_125
  refine ⟨sk_20_0 hC, m_goes hC (fun _ _ => ⟨fun _ => ?_, fun z => absurd z (by decide)⟩) (fun _ z => absurd (hML.2.2.2.trans hD0) z) (fun z => absurd z (by decide))⟩
  have E0 := cd_E hC M 0
  have hM0 : SM q (mR (cd q M 0)) := Ef_SM E0.1 hM
  have gm0 : GM q (cd q M 0) G := GM_ef hC hGM E0.1 (by unfold P0; omega) (fun b j h1 h2 => by unfold P0; omega)
  have ml0 : ML q nL W nB (cd q M 0) st L := ML_ef hML E0 (fun a b j z => by unfold PLg at z; unfold P0; omega) (by unfold P0; omega) (by unfold P0; omega) (by unfold P0; omega)
  generalize cd q M 0 = N at *
  clear E0 hM hML hGM
  rw [e88a]
  refine ⟨_, sm_37 hM0, sk_20_38 hC, vb _ (sn_20_38 hC), ?_⟩
  rw [AB_at gm0.2.2.2.1 hg hk, bt1_0]
  refine ⟨fun z => ?_, fun z => h8 z⟩
  have hm : (gM G g).testBit k = true := Decidable.not_not.mp z
  refine ⟨_, sm_35 hM0, sk_20_36 hC, vin _ (sn_20_36 hC), ?_⟩
  rw [hgc, gm0.2.1 g hg]
  refine ⟨fun w => ⟨_, sm_34 hM0, sk_20_35 hC, vin _ (sn_20_35 hC), ?_⟩, fun w => h9 hm w⟩
  rw [gm0.2.2.1 g hg, nIeq (x := 2) (b := 2) rfl (by omega) (by omega)]
  refine ⟨fun s2 => m_owner hC hM0 gm0 hg (by omega) hk hm ?_, fun s2 => h10 hm w s2⟩
  have hmod : owM (gM G g) l % 8 < 8 := Nat.mod_lt _ (by decide)
  have eo : isO (gM G g) k l = true ↔ owM (gM G g) l % 8 = k := by unfold isO; rw [decide_eq_true_eq]
  rw [nI_eq (by omega) (by omega), ← eo]
  refine ⟨fun ho => ?_, fun ho => h11 hm w s2 ho⟩
  obtain ⟨⟨B, hp, ht', hLM⟩, w6, w7, w5⟩ := ml0
  obtain ⟨es, een⟩ := hLM.2.2.2.2.2.2.2.1 l (by omega)
  have h12' := h12 hm w s2 ho
  refine ⟨_, sm_26 hM0, sk_20_27 hC, vl _ (sn_20_27 hC), ?_⟩
  rw [hlc, es]
  refine ⟨fun y => h12' (fun v => Int64.not_le.mpr y v.1), fun y => ⟨_, sm_27 hM0, sk_20_28 hC, vl _ (sn_20_28 hC), ?_⟩⟩
  rw [een]
  refine ⟨fun y2 => ?_, fun y2 => h12' (fun v => y2 v.2)⟩
  refine m_notes hC hM0 hG ⟨⟨B, hp, ht', hLM⟩, w6, w7, w5⟩ hD0 hlf gm0.1 (by omega) (by omega) (by omega) ?_
  intro L' r M32 hA ml' E'
  have K := h hm w s2 ho ⟨Int64.not_lt.mp y, y2⟩ L' r
  have G32 : GM q M32 G := GM_ef hC gm0 E' (by unfold PN PA; omega) (fun b j h1 h2 => by unfold PN PA; omega)
  have E32 : Ef q PG N M32 := Ef_mono E' (fun a b j z => Or.inl z)
  refine ⟨fun r1 => ⟨_, sm_39 (Ef_SM E32 hM0), sk_20_40 hC, vb _ (sn_20_40 hC), fun M38 e38 => ?_⟩, fun r1 => ?_⟩
  · rw [if_pos r1, if_pos r1] at K
    rw [hkc, G32.1] at e38
    have G38 := GM_40 hC G32 e38
    have E38 : EfH q Pg M32 M38 := EfH_sI hC e38 ⟨rfl, by omega, by omega⟩
    exact K M38 hA G38 (Pg_ML ml' E38) (Ef_trans E32 (Pg_PG E38))
  · rw [if_neg r1, if_neg r1] at K
    exact K M32 hA G32 ml' E32
