/-! what members ask of the class -/
theorem c_refusal {Y : Ly} {q : Nat → Nat → Nat} {nL W nB : Nat} {M : Mm} {G : GSt} {g k n : Nat} {told : Int32} {Kn : Int32 → Mm → Prop} (hC : SC Y q nL W nB) (hR : SR q nL (mR M)) (hGC : GC q M G) (hGI : GI n G) (hg : g < 8) (hk : k < 8) (h : Kn (if (gM G g).testBit k = true then (if told = nI (gN G g) then 0 else -9) else -8) M) : f_X7_refusal Y (q 0 26) (nI g) (nI k) told M Kn := by
  unfold f_X7_refusal f_X7_refusal_28
  refine ⟨sk_0_26 hC, c_has hC hR hGC hg hk (hGI.2.2 g hg).2.2.1 ?_⟩
  unfold bt1
  by_cases e : (gM G g).testBit k = true
  · rw [if_pos e] at h ⊢
    refine ⟨fun _ => ⟨_, sr_0_26_1 hR, sk_0_27 hC, by rw [sn_0_27 hC]; exact vp_in_nI hg (by decide), ?_⟩, fun z => absurd z (by decide)⟩
    rw [AR_at hGC.2.1 hg (by decide)]
    exact ⟨fun z => by rwa [if_neg z] at h, fun z => by rwa [if_pos z] at h⟩
  · rw [if_neg e] at h ⊢
    exact ⟨fun z => absurd rfl z, fun _ => h⟩
theorem c_hear {Y : Ly} {q : Nat → Nat → Nat} {nL W nB : Nat} {M : Mm} {G : GSt} {g k n : Nat} {told : Int32} {Kn : Int32 → Mm → Prop} (hC : SC Y q nL W nB) (hR : SR q nL (mR M)) (hGC : GC q M G) (hGI : GI n G) (hg : g < 8) (hk : k < 8) (h0 : ¬ (gM G g).testBit k = true → Kn (-8) M) (h1 : (gM G g).testBit k = true → ¬ told = nI (gN G g) → Kn (-9) M) (h : (gM G g).testBit k = true → told = nI (gN G g) → ∀ M', Fr q Fg M M' → GC q M' (heaG G (8 * g + k)) → Kn (if (gJ G g).testBit k = true then 0 else 1) M') : f_X7_hear Y (q 0 26) (nI g) (nI k) told M Kn := by
  have i := hGI.2.2 g hg
  unfold f_X7_hear f_X7_hear_51
  refine ⟨sk_0_26 hC, c_refusal hC hR hGC hGI hg hk ?_⟩
  by_cases e : (gM G g).testBit k = true
  · rw [if_pos e]
    by_cases e2 : told = nI (gN G g)
    · rw [if_pos e2]
      have e8 : nI g * 8 + nI k = nI (8 * g + k) := by rw [show (8 : Int32) = nI 8 from rfl, pk_mul g 8, nI_add]; congr 1; omega
      rw [e8]
      refine ⟨fun _ => ⟨_, sr_0_26_6 hR, sk_0_32 hC, by rw [sn_0_32 hC]; exact vp_in_nI (by omega) (by decide), fun M8 e8' => ⟨q 0 30, by rw [e8']; exact sr_0_26_4 hR, sk_0_30 hC, by rw [sn_0_30 hC]; exact vp_in_nI hg (by decide), ?_⟩⟩, fun z => absurd rfl z⟩
      rw [nI_clamp (by omega), hGC.1] at e8'
      have G8 := GC_32 hC hGC e8'
      rw [AR_at G8.2.2.2.2.1 hg (by decide)]
      have hb := bz_has ⟨gJ G g, i.2.2.2.1⟩ ⟨k, hk⟩
      dsimp only at hb
      have key := h e e2 M8 (Fr_e e8' ⟨rfl, by omega⟩) G8
      have hb' : ((nI (gJ (gN G, gS G, gM G, gJ G, gL G, m1 (gH G) (8 * g + k) (gT G), gT G) g) >>> (nI k &&& 31)) &&& 1) = if (gJ G g).testBit k = true then 1 else 0 := hb
      rw [hb']
      by_cases e3 : (gJ G g).testBit k = true
      · rw [if_pos e3] at key ⊢
        exact ⟨fun z => absurd rfl z, fun _ => key⟩
      · rw [if_neg e3] at key ⊢
        exact ⟨fun _ => key, fun z => absurd z (by decide)⟩
    · rw [if_neg e2]
      exact ⟨fun z => absurd z (by decide), fun _ => h1 e e2⟩
  · rw [if_neg e]
    exact ⟨fun z => absurd z (by decide), fun _ => h0 e⟩
/-! shares -/
def pc8 (m : Nat) : Nat := ((List.range 8).filter (fun k => m.testBit k)).length
theorem bc8 : ∀ m : Fin 256, (let x1 := nI m.val - ((((nI m.val).toUInt32 >>> ((1 : Int32).toUInt32 &&& Int32.toUInt32 31)).toInt32) &&& 1431655765)
  let x2 := (x1 &&& 858993459) + (((x1.toUInt32 >>> ((2 : Int32).toUInt32 &&& Int32.toUInt32 31)).toInt32) &&& 858993459)
  let x3 := (x2 + ((x2.toUInt32 >>> ((4 : Int32).toUInt32 &&& Int32.toUInt32 31)).toInt32)) &&& 252645135
  let x4 := x3 + ((x3.toUInt32 >>> ((8 : Int32).toUInt32 &&& Int32.toUInt32 31)).toInt32)
  let x5 := x4 + ((x4.toUInt32 >>> ((16 : Int32).toUInt32 &&& Int32.toUInt32 31)).toInt32)
  x5 &&& 63) = nI (pc8 m.val) := by decide +kernel
theorem s_bitCount {Y : Ly} {m : Nat} {M : Mm} {Kn : Int32 → Mm → Prop} (hm : m < 256) (h : Kn (nI (pc8 m)) M) : f_J6_bitCount_0f7a4 Y (nI m) M Kn := by
  intro x1 e1 x2 e2 x3 e3 x4 e4 x5 e5
  have := bc8 ⟨m, hm⟩
  dsimp only at this
  rw [← e1, ← e2, ← e3, ← e4, ← e5] at this
  rw [this]; exact h
/-- the member to whom log l belongs, told as the model counts -/
def nxM (m : Nat) : Nat → Nat → Nat
  | 0, x => x
  | f + 1, x => if m.testBit (x % 8) = true then x else nxM m f (x + 1)
def owM (m : Nat) : Nat → Nat
  | 0 => nxM m 8 0
  | l + 1 => nxM m 8 (owM m l + 1)
def isO (m k l : Nat) : Bool := decide (owM m l % 8 = k)
theorem isO_c : ∀ m : Fin 256, ∀ k l : Fin 8, m.val.testBit k.val = true → (isO m.val k.val l.val = true ↔ l.val % pc8 m.val = pc8 (m.val &&& (2 ^ k.val - 1))) := by decide +kernel
theorem pc_pos : ∀ m : Fin 256, ∀ k : Fin 8, m.val.testBit k.val = true → 0 < pc8 m.val ∧ pc8 m.val ≤ 8 := by decide +kernel
theorem and_lo : ∀ m : Fin 256, ∀ k : Fin 8, nI m.val &&& (((1 : Int32) <<< (nI k.val &&& 31)) - 1) = nI (m.val &&& (2 ^ k.val - 1)) ∧ m.val &&& (2 ^ k.val - 1) < 256 := by decide +kernel
def shM (nL m k : Nat) : Nat := mskF (isO m k) nL
theorem c_share {Y : Ly} {q : Nat → Nat → Nat} {nL W nB : Nat} {M : Mm} {G : GSt} {g k n : Nat} {Kn : Int32 → Mm → Prop} (hC : SC Y q nL W nB) (hR : SR q nL (mR M)) (hGC : GC q M G) (hGI : GI n G) (hg : g < 8) (hk : k < 8) (h : Kn (nI (if gS G g = 2 ∧ (gM G g).testBit k = true then shM nL (gM G g) k else 0)) M) : f_X7_shareOf Y (q 0 26) (nI g) (nI k) M Kn := by
  have hd := sdims hC
  have vin : ∀ b, yN Y b = 8 → vp_in (nI g) (yN Y b) := fun b hb => by rw [hb]; exact vp_in_nI hg (by decide)
  have hgc : (nI g).toNatClampNeg = g := nI_clamp (by omega)
  obtain ⟨p, b', c, d, ee, f, i, j⟩ := hGI.2.2 g hg
  unfold f_X7_shareOf f_X7_shareOf_19
  refine ⟨sk_0_26 hC, _, sr_0_26_2 hR, sk_0_28 hC, vin _ (sn_0_28 hC), ?_⟩
  rw [hgc, hGC.2.2.1 g hg, nIeq (x := 2) (b := 2) rfl (by omega) (by omega)]
  refine ⟨fun c2 => by rw [if_neg (fun z => c2 z.1)] at h; exact h, fun c2 => c_has hC hR hGC hg hk c ?_⟩
  unfold bt1
  by_cases hm : (gM G g).testBit k = true
  · rw [if_pos ⟨c2, hm⟩] at h
    rw [if_pos hm]
    refine ⟨fun _ => ⟨_, sr_0_26_3 hR, sk_0_29 hC, vin _ (sn_0_29 hC), ?_⟩, fun z => absurd z (by decide)⟩
    rw [hGC.2.2.2.1 g hg]
    refine s_bitCount c ⟨_, sr_0_26_3 hR, sk_0_29 hC, vin _ (sn_0_29 hC), ?_⟩
    have hlo := and_lo ⟨gM G g, c⟩ ⟨k, hk⟩
    dsimp only at hlo
    rw [hGC.2.2.2.1 g hg, hlo.1]
    refine s_bitCount hlo.2 ?_
    obtain ⟨pp, pp2⟩ := pc_pos ⟨gM G g, c⟩ ⟨k, hk⟩ hm
    dsimp only at pp pp2
    have hpr : pc8 (gM G g &&& (2 ^ k - 1)) ≤ 8 := by
      unfold pc8
      exact Nat.le_trans (List.length_filter_le _ _) (by simp)
    refine LOOP2_inv (fun x20 x21 => ∃ l, l ≤ nL ∧ x21 = nI l ∧ x20 = nI (mskF (isO (gM G g) k) l)) (fun _ x21 => nL - x21.toNatClampNeg) ?_ _ _ ⟨0, by omega, rfl, rfl⟩
    rintro x20 x21 again ⟨l, hl, rfl, rfl⟩ hag
    unfold L_X7_shareOf_54
    refine ⟨_, sr_0_26_7 hR, sk_0_13 hC, _, sr_0_13_1 hR, sk_0_14 hC, ?_⟩
    rw [sn_0_14 hC, nI_pred, nI_cmp (by omega) (by omega)]
    refine ⟨fun c3 => by rw [show l = nL by omega]; exact h, fun c3 => ⟨by rw [nIeq (x := 0) (b := 0) rfl (by omega) (by omega)]; omega, ?_⟩⟩
    have nxt : ∀ x28, x28 = nI (mskF (isO (gM G g) k) (l + 1)) → f_X7_shareOf_87 Y (nI l) again x28 := by
      intro x28 e28 x29 e29
      rw [nI_1] at e29
      subst e29
      refine hag _ _ ⟨l + 1, by omega, rfl, e28⟩ ?_
      rw [nI_clamp (by omega), nI_clamp (by omega)]; omega
    have hml : l % pc8 (gM G g) < 8 := by have := Nat.mod_lt l pp; omega
    have ho := isO_c ⟨gM G g, c⟩ ⟨k, hk⟩ ⟨l, by omega⟩ hm
    dsimp only at ho
    rw [pk_rem (by omega) pp (by omega), nI_eq (by omega) (by omega), ← ho]
    have mlt := mskF_lt (isO (gM G g) k) l (by omega)
    refine ⟨fun z => nxt _ ?_, fun z x31 e31 => nxt _ ?_⟩
    · simp only [mskF]; rw [if_neg z]; simp
    · have hb := bz_or ⟨_, mlt⟩ ⟨l, by omega⟩
      dsimp only at hb
      simp only [mskF]
      rw [e31, if_pos z, ← hb]
  · rw [if_neg (fun z => hm z.2)] at h
    rw [if_neg hm]
    exact ⟨fun z => absurd rfl z, fun _ => h⟩
theorem sh_bit {nL m k l : Nat} (hl : l < nL) (hn : nL ≤ 8) : ((nI (shM nL m k) >>> (nI l &&& 31)) &&& 1) = if isO m k l = true then 1 else 0 := by
  have := bz_has ⟨shM nL m k, mskF_lt _ _ hn⟩ ⟨l, by omega⟩
  dsimp only at this
  rw [this]
  unfold shM
  rw [mskF_t]
  simp [hl]
/-! commits -/
def comB (g l : Nat) (tm : Nat) (v : Int64) : Bt := noteB (nI g) (nI l) tm v
theorem c_commit {Y : Ly} {q : Nat → Nat → Nat} {nL W nB : Nat} {M : Mm} {st : Nat → Int64} {L : LSt} {G : GSt} {g k l n e : Nat} {off : Int64} {Kn : Int32 → Mm → Prop} (hC : SC Y q nL W nB) (hR : SR q nL (mR M)) (hG : Geo nL W nB (lS L)) (hCL : CL q nL W nB M st L) (hD0 : lD L = 0) (hlf : LfOK (lL L)) (hGC : GC q M G) (hGI : GI n G) (hg : g < 8) (hk : k < 8) (hl : l < nL) (hend : lE L nL = lN e) (he : e < 2 ^ 62) (hm : (gM G g).testBit k = true)
    (h10 : ¬ gS G g = 2 → Kn (-10) M) (h11 : gS G g = 2 → ¬ isO (gM G g) k l = true → Kn (-11) M) (h12 : gS G g = 2 → isO (gM G g) k l = true → ¬ (st l ≤ off ∧ off ≤ lE L l) → Kn (-12) M)
    (h : gS G g = 2 → isO (gM G g) k l = true → (st l ≤ off ∧ off ≤ lE L l) → ∀ L' r M', ApR nL W nB nL (comB g l (gT G) off) L L' r → GC q M' (if r = 1 then heaG G (8 * g + k) else G) → CL q nL W nB M' st L' → Fr q (Fc nL) M M' → (∀ j, j < 1024 → mI M' (q 0 11) j = mI M (q 0 11) j) → Kn (if r = 1 then 0 else r) M') : f_X7_commitOffset Y (q 0 26) (nI g) (nI k) (nI l) off M Kn := by
  have hd := sdims hC
  have vin : ∀ b, yN Y b = 8 → vp_in (nI g) (yN Y b) := fun b hb => by rw [hb]; exact vp_in_nI hg (by decide)
  have hgc : (nI g).toNatClampNeg = g := nI_clamp (by omega)
  have b' := (hGI.2.2 g hg).2.1
  have ht := hGI.1
  unfold f_X7_commitOffset
  refine ⟨sk_0_26 hC, _, sr_0_26_2 hR, sk_0_28 hC, vin _ (sn_0_28 hC), ?_⟩
  rw [hgc, hGC.2.2.1 g hg, nIeq (x := 2) (b := 2) rfl (by omega) (by omega)]
  refine ⟨fun c2 => c_share hC hR hGC hGI hg hk ?_, h10⟩
  rw [if_pos ⟨c2, hm⟩, sh_bit hl hd.2.1]
  by_cases ho : isO (gM G g) k l = true
  · rw [if_pos ho]
    have hLC := hCL.2.2.2.2.2 hD0
    obtain ⟨a1, a2, a3, a4⟩ := hLC.2.2 l (by omega)
    refine ⟨fun _ => ⟨_, sr_0_26_7 hR, sk_0_13 hC, _, sr_0_13_1 hR, sk_0_14 hC, by rw [sn_0_14 hC]; exact vp_in_nI (by omega) (by omega), _, by rw [nI_clamp (by omega)]; exact sr_0_14 hR l (by omega), sk_t_0 hC l (by omega), ?_⟩, fun z => absurd z (by decide)⟩
    unfold f_X8_holds
    refine ⟨sk_t_0 hC l (by omega), s_isWithin ?_⟩
    rw [a3, a4]
    by_cases hw : st l ≤ off ∧ off ≤ lE L l
    · rw [if_pos hw]
      refine ⟨bz_1, fun _ => ⟨q 0 13, sr_0_26_7 hR, q 0 13, sr_0_26_7 hR, sk_0_13 hC, c_own hC hR ?_⟩, fun z => absurd z (by decide)⟩
      refine c_note (tm := gT G) hC hR hGC.1 (by omega) (fun M21 F21 J21 L21 => ⟨sk_0_13 hC, ?_⟩)
      have hR21 : SR q nL (mR M21) := by rw [F21.2]; exact hR
      have nl : (comB g l (gT G) off).length = 78 := noteB_len _ _ _ _
      have hGC21 : GC q M21 G := GC_fr hC hGC F21 (fun b h1 h2 => by unfold F1; omega)
      have hCL21 : CL q nL W nB M21 st L := CL_fr hC hCL F21 (by simp [F1]) (by simp [F1]) (by simp [F1]) (fun l c => by simp [F1])
      rw [show (78 : Int32) = nI (comB g l (gT G) off).length from by rw [nl]; rfl]
      refine c_app (c := 33) hC hR21 (Nat.le_refl nL) (Or.inr rfl) hG hCL21 hD0 hlf L21 (by omega) (by omega) (by rw [sn_0_33 hC]; omega) ?_
      intro L' r M28 hAp hCL28 F28 hb28
      have hGC28 : GC q M28 G := GC_fr hC hGC21 F28 (fun b h1 h2 => by unfold Ap; omega)
      have hR28 : SR q nL (mR M28) := by rw [F28.2]; exact hR21
      have FF : Fr q (Fc nL) M M28 := Fr_trans (Fr_mono F21 (fun a b z => by unfold F1 at z; unfold Fc; omega)) (Fr_mono F28 (fun a b z => by unfold Ap at z; unfold Fc; omega))
      have bb : ∀ j, j < 1024 → mI M28 (q 0 11) j = mI M (q 0 11) j := fun j hj => by rw [hb28 j hj, Fr_I hC F21 (by simp [F1])]
      have K := h c2 ho hw L' r
      rcases ApR_dn hAp hD0 with ⟨rfl, hdn⟩ | ⟨rfl, rfl⟩ | ⟨rfl, hdn⟩
      · rw [if_pos rfl] at K ⊢
        rw [hend]
        have h0e : 0 ≤ lN e := by rw [show (0 : Int64) = lN 0 from rfl, pk_lLE (by omega) (by omega)]; omega
        refine ⟨fun _ => ⟨_, sr_0_26_6 hR28, sk_0_32 hC, ?_, fun M33 e33 => ?_⟩, fun z => absurd h0e z⟩
        · rw [show (8 : Int32) = nI 8 from rfl, pk_mul g 8, nI_add, sn_0_32 hC]; exact vp_in_nI (by omega) (by decide)
        rw [show (8 : Int32) = nI 8 from rfl, pk_mul g 8, nI_add, nI_clamp (by omega), hGC28.1, show g * 8 + k = 8 * g + k by omega] at e33
        have G33 := GC_32 hC hGC28 e33
        have F33 : Fr q Fg M28 M33 := Fr_e e33 ⟨rfl, by omega⟩
        exact K M33 hAp G33 (Fg_CL hC hCL28 F33) (Fr_trans FF (Fg_Fc F33)) (fun j hj => by rw [Fg_11 hC F33]; exact bb j hj)
      · rw [if_neg (by decide)] at K
        rw [if_neg (by decide), if_pos rfl]
        exact ⟨fun z => absurd z (by decide), fun _ => K M28 hAp hGC28 hCL28 FF bb⟩
      · rw [if_neg (by decide)] at K
        rw [if_neg (by decide), if_neg (by decide)]
        exact ⟨fun z => absurd z (by decide), fun _ => K M28 hAp hGC28 hCL28 FF bb⟩
    · rw [if_neg hw]
      exact ⟨bz_0, fun z => absurd rfl z, fun _ => h12 c2 ho hw⟩
  · rw [if_neg ho]
    exact ⟨fun z => absurd rfl z, fun _ => h11 c2 ho⟩
/-! the latest note -/
def ntV (g o : Int32) : List Bt → Int64
  | [] => -1
  | b :: bs => if fB b 66 = g.toInt8.toInt32 ∧ fB b 67 = o.toInt8.toInt32 then beS (fB b) 69 8 else ntV g o bs
theorem Nt_len {n : Nat} {b : Bt} (h : NtOK n b) (h61 : 61 ≤ b.length) : b.length = 78 := by
  obtain ⟨g, o, v, _, _, ⟨e, _⟩, _⟩ := h
  have := congrArg List.length e
  rw [List.length_drop, ntB_len] at this
  omega
theorem c_latest {Y : Ly} {q : Nat → Nat → Nat} {nL W nB : Nat} {M : Mm} {st : Nat → Int64} {L : LSt} {n : Nat} {g o : Int32} {Kn : Int64 → Mm → Prop} (hC : SC Y q nL W nB) (hR : SR q nL (mR M)) (hG : Geo nL W nB (lS L)) (hLC : LogC q nL W nB M st (lE L) (lS L)) (hD : DkA nL (mI M (q 0 11)) st (lE L) (lS L)) (hN : ∀ b, b ∈ BS (lS L nL) → NtOK n b) (h : Kn (ntV g o (BS (lS L nL)).reverse) M) : f_X7_latestNote Y (q 0 26) g o M Kn := by
  have hd := sdims hC
  have hct := Geo_count hG (Nat.le_refl nL)
  have hPB := PS_len (lS L nL)
  have n11 := sn_0_11 hC
  unfold f_X7_latestNote
  refine ⟨sk_0_26 hC, _, sr_0_26_7 hR, sk_0_13 hC, c_own hC hR ⟨q 0 13, sr_0_26_7 hR, sk_0_13 hC, q 0 10, sr_0_13_0 hR, sk_0_10 hC, q 0 11, sr_0_10_0 hR, sk_t_0 hC nL (Nat.le_refl _), fun x12 e12 => ?_⟩⟩
  rw [(hLC.2.2 nL (Nat.le_refl _)).2.1.2.1] at e12
  subst e12
  refine LOOP1_inv (fun x13 => ∃ i, i ≤ (BS (lS L nL)).length ∧ x13 = nI i - 1 ∧ ntV g o (BS (lS L nL)).reverse = ntV g o ((BS (lS L nL)).take i).reverse) (fun x13 => (x13 + 1).toNatClampNeg) ?_ _ ⟨(BS (lS L nL)).length, Nat.le_refl _, by rw [hPB], by rw [List.take_of_length_le (Nat.le_refl _)]⟩
  rintro x13 again ⟨i, hi, rfl, he⟩ hag
  unfold L_X7_latestNote_28 f_X7_latestNote_85
  cases i with
  | zero =>
    refine ⟨fun _ => ?_, fun c => absurd (show (nI 0 - 1 : Int32) < 0 from by decide) c⟩
    rw [he] at h
    exact h
  | succ i =>
    rw [nI_pred]
    obtain ⟨p, hp⟩ := lt_some (show i < (PS (lS L nL)).length by omega)
    obtain ⟨v1, v2, v3, v4⟩ := c_at (Y := Y) hG hLC hD (Nat.le_refl nL) hp
    have w1 : (BS (lS L nL))[i]? = some p.2 := by rw [← PS_snd, List.getElem?_map, hp]; rfl
    have hl78 := Nt_len (hN _ (List.mem_of_getElem? w1)) v4
    have hin : vp_in (nI i) (yN Y (q (nL + 1) 4)) := by rw [sn_t_4 hC nL (Nat.le_refl _)]; exact vp_in_nI (by omega) (by omega)
    rw [rev_s w1] at he
    simp only [ntV] at he
    have nxt : ¬ (fB p.2 66 = g.toInt8.toInt32 ∧ fB p.2 67 = o.toInt8.toInt32) → ∀ x21 : Int32, x21 = nI i + (-1) → again x21 := by
      intro hne x21 e21
      rw [if_neg hne] at he
      have : nI i + (-1) = nI i - 1 := by rw [Int32.sub_eq_add_neg]
      rw [this] at e21
      subst e21
      refine hag _ ⟨i, by omega, rfl, he⟩ ?_
      rw [Int32.sub_add_cancel, Int32.sub_add_cancel, nI_clamp (by omega), nI_clamp (by omega)]; omega
    refine ⟨fun c => absurd c (nI_pos (by omega)), fun _ => ⟨_, sr_t_8 hR nL (Nat.le_refl _), sk_t_4 hC nL (Nat.le_refl _), hin, fun x18 e18 => ⟨sk_0_11 hC, ?_⟩⟩⟩
    rw [nI_clamp (by omega), v1, show nI p.1 + 66 = nI (p.1 + 66) from nI_add _ 66] at e18
    subst e18
    rw [nI_clamp (by omega), Lie_fB v2 66 (by omega)]
    refine ⟨by rw [n11]; exact vp_in_nI (by omega) (by omega), fun c => nxt (fun z => c z.1), fun c => ?_⟩
    rw [show nI (p.1 + 66) + 1 = nI (p.1 + 67) from nI_1 _, nI_clamp (by omega), Lie_fB v2 67 (by omega)]
    refine ⟨by rw [n11]; exact vp_in_nI (by omega) (by omega), fun c2 => nxt (fun z => c2 z.2), fun c2 => ⟨_, sr_t_8 hR nL (Nat.le_refl _), sk_t_4 hC nL (Nat.le_refl _), hin, ?_⟩⟩
    rw [nI_clamp (by omega), v1, show nI p.1 + 69 = nI (p.1 + 69) from nI_add _ 69]
    refine s_signed (n := 8) (sk_0_11 hC) (by omega) (by omega) ?_
    rw [beS_fB v2 (by omega)]
    rw [he, if_pos ⟨c, c2⟩] at h
    exact h
