/-! what holds of groups, kept -/
def GIg (n : Nat) (G : GSt) (g : Nat) : Prop := gN G g ≤ n ∧ gS G g ≤ 2 ∧ gM G g < 256 ∧ gJ G g < 256 ∧ sub8 (gJ G g) (gM G g) ∧ gL G g ≤ gT G + 20 ∧ (gS G g = 2 → gJ G g = gM G g ∧ gM G g ≠ 0) ∧ (gS G g = 0 → gM G g = 0 ∧ gJ G g = 0)
theorem GI_at {n : Nat} {G G' : GSt} (g : Nat) (h : GI n G) (hs : ∀ i, i ≠ g → gN G' i = gN G i ∧ gS G' i = gS G i ∧ gM G' i = gM G i ∧ gJ G' i = gJ G i ∧ gL G' i = gL G i) (ht : gT G' = gT G) (hh : ∀ k, k < 64 → gH G' k ≤ gT G') (hg : g < 8 → GIg n G' g) : GI n G' := by
  refine ⟨by rw [ht]; exact h.1, hh, fun i hi => ?_⟩
  by_cases e : i = g
  · subst e; exact hg hi
  · obtain ⟨a, b, c, d, f⟩ := hs i e
    rw [a, b, c, d, f, ht]
    exact h.2.2 i hi
theorem sub8_0 (m : Nat) : sub8 0 m := fun k _ h => by simp at h
theorem sub8_r (m : Nat) : sub8 m m := fun _ _ h => h
theorem GI_mix {n : Nat} {G : GSt} {g : Nat} (h : GI n G) : GI n (mixG G g) := by
  refine GI_at g h (fun i hi => ⟨rfl, m1_nat _ _ hi, rfl, m1_nat _ _ hi, m1_nat _ _ hi⟩) rfl h.2.1 (fun hg => ?_)
  obtain ⟨a, b, c, d, e, f, i, j⟩ := h.2.2 g hg
  refine ⟨a, ?_, c, ?_, ?_, ?_, ?_, ?_⟩
  · show m1 (gS G) g 1 g ≤ 2; rw [m1_at]; decide
  · show m1 (gJ G) g 0 g < 256; rw [m1_at]; decide
  · show sub8 (m1 (gJ G) g 0 g) _; rw [m1_at]; exact sub8_0 _
  · show m1 (gL G) g (gT G + 20) g ≤ gT G + 20; rw [m1_at]; exact Nat.le_refl _
  · intro z; have : m1 (gS G) g 1 g = 2 := z; rw [m1_at] at this; exact absurd this (by decide)
  · intro z; have : m1 (gS G) g 1 g = 0 := z; rw [m1_at] at this; exact absurd this (by decide)
theorem GI_emp {n : Nat} {G : GSt} {g : Nat} (h : GI n G) : GI n (empG G g) := by
  refine GI_at g h (fun i hi => ⟨rfl, m1_nat _ _ hi, m1_nat _ _ hi, m1_nat _ _ hi, rfl⟩) rfl h.2.1 (fun hg => ?_)
  obtain ⟨a, b, c, d, e, f, i, j⟩ := h.2.2 g hg
  have e1 : gS (empG G g) g = 0 := m1_at _ _ _
  have e2 : gM (empG G g) g = 0 := m1_at _ _ _
  have e3 : gJ (empG G g) g = 0 := m1_at _ _ _
  unfold GIg
  rw [e1, e2, e3]
  exact ⟨a, by decide, by decide, by decide, sub8_0 _, f, fun z => absurd z (by decide), fun _ => ⟨rfl, rfl⟩⟩
theorem GI_hea {n : Nat} {G : GSt} {k : Nat} (h : GI n G) : GI n (heaG G k) := by
  refine ⟨h.1, fun i hi => ?_, h.2.2⟩
  show m1 (gH G) k (gT G) i ≤ gT G
  simp only [m1]
  split
  · exact Nat.le_refl _
  · exact h.2.1 i hi
theorem GI_set {n : Nat} {G : GSt} {g : Nat} (h : GI n G) (hj : ¬ gJ G g = 0) : GI (n + 1) (setG G g) := by
  refine ⟨h.1, fun i hi => ?_, fun i hi => ?_⟩
  · show fil8 (gH G) g (gT G) i ≤ gT G
    unfold fil8
    split
    · exact Nat.le_refl _
    · exact h.2.1 i hi
  · obtain ⟨a, b, c, d, e, f, i', j⟩ := h.2.2 i hi
    by_cases z : i = g
    · subst z
      have e0 : gN (setG G i) i = gN G i + 1 := m1_at _ _ _
      have e1 : gS (setG G i) i = 2 := m1_at _ _ _
      have e2 : gM (setG G i) i = gJ G i := m1_at _ _ _
      have e3 : gJ (setG G i) i = gJ G i := rfl
      rw [e0, e1, e2, e3]
      exact ⟨by omega, by decide, d, d, sub8_r _, f, fun _ => ⟨rfl, hj⟩, fun z => absurd z (by decide)⟩
    · have e0 : gN (setG G g) i = gN G i := m1_nat _ _ z
      have e1 : gS (setG G g) i = gS G i := m1_nat _ _ z
      have e2 : gM (setG G g) i = gM G i := m1_nat _ _ z
      rw [e0, e1, e2]
      exact ⟨by omega, b, c, d, e, f, i', j⟩
theorem GI_up {n m : Nat} {G : GSt} (h : GI n G) (hn : n ≤ m) : GI m G := ⟨h.1, h.2.1, fun g hg => ⟨Nat.le_trans (h.2.2 g hg).1 hn, (h.2.2 g hg).2⟩⟩
theorem SetR_GI {nL W nB g n : Nat} {G G' : GSt} {L L' : LSt} (h : SetR nL W nB g G L G' L') (hG : GI n G) : GI (n + 1) G' := by
  rcases h with ⟨_, e, _⟩ | ⟨_, _, ⟨_, e, _⟩ | ⟨c, r, _, e⟩⟩
  · rw [e]; exact GI_up hG (by omega)
  · rw [e]; exact GI_up (GI_emp hG) (by omega)
  · rw [e]
    split
    · exact GI_set hG c
    · exact GI_up hG (by omega)
/-- a member joins -/
def joinG (G : GSt) (g k : Nat) : GSt :=
  let G1 := if gS G g = 1 then G else mixG G g
  heaG (joiG (memG G1 g (gM G1 g ||| 2 ^ k)) g (gJ G1 g ||| 2 ^ k)) (8 * g + k)
theorem sub8_or {a b k : Nat} (ha : a < 256) (hb : b < 256) (hk : k < 8) (h : sub8 a b) : sub8 (a ||| 2 ^ k) (b ||| 2 ^ k) := by
  intro j hj hz
  have h1 := bo_t ⟨a, ha⟩ ⟨k, hk⟩ ⟨j, hj⟩
  have h2 := bo_t ⟨b, hb⟩ ⟨k, hk⟩ ⟨j, hj⟩
  dsimp only at h1 h2
  rw [h1] at hz
  rw [h2]
  split at hz
  · next e => rw [if_pos e]
  · next e => rw [if_neg e]; exact h j hj hz
theorem sub8_no {a b k : Nat} (ha : a < 256) (hb : b < 256) (hk : k < 8) (h : sub8 a b) : sub8 (a &&& (255 ^^^ 2 ^ k)) (b &&& (255 ^^^ 2 ^ k)) := by
  intro j hj hz
  have h1 := bn_t ⟨a, ha⟩ ⟨k, hk⟩ ⟨j, hj⟩
  have h2 := bn_t ⟨b, hb⟩ ⟨k, hk⟩ ⟨j, hj⟩
  dsimp only at h1 h2
  rw [h1] at hz
  rw [h2]
  split at hz
  · cases hz
  · next e => rw [if_neg e]; exact h j hj hz
theorem GI_mj {n : Nat} {G : GSt} {g a b : Nat} (h : GI n G) (ha : a < 256) (hb : b < 256) (hs : sub8 b a) (h1 : gS G g = 1 ∨ (gS G g = 2 ∧ b = a ∧ a ≠ 0)) : GI n (joiG (memG G g a) g b) := by
  refine GI_at g h (fun i hi => ⟨rfl, rfl, m1_nat _ _ hi, m1_nat _ _ hi, rfl⟩) rfl h.2.1 (fun hg => ?_)
  obtain ⟨p, b', c, d, e, f, i, j⟩ := h.2.2 g hg
  have e2 : gM (joiG (memG G g a) g b) g = a := m1_at _ _ _
  have e3 : gJ (joiG (memG G g a) g b) g = b := m1_at _ _ _
  have e1 : gS (joiG (memG G g a) g b) g = gS G g := rfl
  unfold GIg
  rw [e1, e2, e3]
  refine ⟨p, b', ha, hb, hs, f, fun z => ?_, fun z => ?_⟩
  · rcases h1 with w | w
    · omega
    · exact w.2
  · omega
theorem GI_join {n : Nat} {G : GSt} {g k : Nat} (h : GI n G) (hg : g < 8) (hk : k < 8) : GI n (joinG G g k) := by
  unfold joinG
  have h1 : GI n (if gS G g = 1 then G else mixG G g) := by split; exact h; exact GI_mix h
  have s1 : gS (if gS G g = 1 then G else mixG G g) g = 1 := by
    split
    · assumption
    · exact m1_at _ _ _
  generalize (if gS G g = 1 then G else mixG G g) = G1 at h1 s1
  obtain ⟨p, b', c, d, e, f, i, j⟩ := h1.2.2 g hg
  exact GI_hea (GI_mj h1 (bo_lt ⟨_, c⟩ ⟨k, hk⟩) (bo_lt ⟨_, d⟩ ⟨k, hk⟩) (sub8_or d c hk e) (Or.inl s1))
def Fc0 (b : Nat) : Prop := b = 10 ∨ b = 11 ∨ b = 15 ∨ b = 16 ∨ (26 ≤ b ∧ b ≤ 33)
theorem Fg_CL {Y : Ly} {q : Nat → Nat → Nat} {nL W nB : Nat} {M M' : Mm} {st : Nat → Int64} {L : LSt} (hC : SC Y q nL W nB) (h : CL q nL W nB M st L) (F : Fr q Fg M M') : CL q nL W nB M' st L := CL_fr hC h F (by unfold Fg; omega) (by unfold Fg; omega) (by unfold Fg; omega) (fun l c => by unfold Fg; omega)
theorem Fg_Fc {q : Nat → Nat → Nat} {nL : Nat} {M M' : Mm} (F : Fr q Fg M M') : Fr q (Fc nL) M M' := Fr_mono F (fun a b z => by unfold Fg at z; unfold Fc; omega)
theorem Fg_11 {Y : Ly} {q : Nat → Nat → Nat} {nL W nB : Nat} {M M' : Mm} (hC : SC Y q nL W nB) (F : Fr q Fg M M') : mI M' (q 0 11) = mI M (q 0 11) := Fr_I hC F (by unfold Fg; omega)
theorem c_enter {Y : Ly} {q : Nat → Nat → Nat} {nL W nB : Nat} {M : Mm} {st : Nat → Int64} {L : LSt} {G : GSt} {g k n e : Nat} {Kn : Int32 → Mm → Prop} (hC : SC Y q nL W nB) (hR : SR q nL (mR M)) (hG : Geo nL W nB (lS L)) (hCL : CL q nL W nB M st L) (hD0 : lD L = 0) (hlf : LfOK (lL L)) (hGC : GC q M G) (hGI : GI n G) (hn : n < 2 ^ 30) (hg : g < 8) (hk : k < 8) (hend : lE L nL = lN e) (he : e < 2 ^ 62)
    (h : ∀ G' L' M', SetR nL W nB g (joinG G g k) L G' L' → GC q M' G' → CL q nL W nB M' st L' → Fr q (Fc nL) M M' → (∀ j, j < 1024 → mI M' (q 0 11) j = mI M (q 0 11) j) → Kn (if lD L' = 0 then (if gS G' g = 2 then nI (gN G' g) else -1) else -3) M') : f_X7_enter Y (q 0 26) (nI g) (nI k) M Kn := by
  have vin : ∀ b, yN Y b = 8 → vp_in (nI g) (yN Y b) := fun b hb => by rw [hb]; exact vp_in_nI hg (by decide)
  have hgc : (nI g).toNatClampNeg = g := nI_clamp (by omega)
  have hGI2 := GI_join hGI hg hk
  unfold f_X7_enter
  refine ⟨sk_0_26 hC, _, sr_0_26_2 hR, sk_0_28 hC, vin _ (sn_0_28 hC), ?_⟩
  have i2 := (hGI.2.2 g hg).2.1
  rw [hgc, hGC.2.2.1 g hg, nIeq (x := 1) (b := 1) rfl (by omega) (by omega)]
  have rest : ∀ G1 M5, G1 = (if gS G g = 1 then G else mixG G g) → GI n G1 → GC q M5 G1 → Fr q Fg M M5 → f_X7_enter_15 Y (q 0 26) (nI g) (nI k) Kn M5 := by
    intro G1 M5 eG hI1 hC1 F5
    have hR5 : SR q nL (mR M5) := by rw [F5.2]; exact hR
    obtain ⟨p, b', c, d, ee, f, i, j⟩ := hI1.2.2 g hg
    unfold f_X7_enter_15 f_X7_enter_85
    refine ⟨_, sr_0_26_3 hR5, sk_0_29 hC, vin _ (sn_0_29 hC), vin _ (sn_0_29 hC), fun M10 e10 => ⟨q 0 30, by rw [e10]; exact sr_0_26_4 hR5, sk_0_30 hC, vin _ (sn_0_30 hC), vin _ (sn_0_30 hC), fun M15 e15 => ⟨q 0 32, by rw [e15, e10]; exact sr_0_26_6 hR5, sk_0_32 hC, ?_, fun M19 e19 => ?_⟩⟩⟩
    · rw [show (8 : Int32) = nI 8 from rfl, pk_mul g 8, nI_add, sn_0_32 hC]; exact vp_in_nI (by omega) (by decide)
    rw [hgc, hC1.2.2.2.1 g hg, bz_or ⟨_, c⟩ ⟨k, hk⟩] at e10
    have G10 := GC_29 hC hC1 e10
    rw [hgc, G10.2.2.2.2.1 g hg] at e15
    have eb : nI (gJ G1 g) ||| ((1 : Int32) <<< (nI k &&& 31)) = nI (gJ G1 g ||| 2 ^ k) := bz_or ⟨_, d⟩ ⟨k, hk⟩
    have e15' : M15 = sI M10 (q 0 30) (m1 (mI M10 (q 0 30)) g (nI (gJ G1 g ||| 2 ^ k))) := by rw [e15, ← eb]; rfl
    have G15 := GC_30 hC G10 e15'
    rw [show (8 : Int32) = nI 8 from rfl, pk_mul g 8, nI_add, nI_clamp (by omega), G15.1, show g * 8 + k = 8 * g + k by omega] at e19
    have G19 := GC_32 hC G15 e19
    have F19 : Fr q Fg M M19 := Fr_trans F5 (Fr_trans (Fr_e e10 ⟨rfl, by omega⟩) (Fr_trans (Fr_e e15 ⟨rfl, by omega⟩) (Fr_e e19 ⟨rfl, by omega⟩)))
    have eq2 : joinG G g k = (gN G1, gS G1, m1 (gM G1) g (gM G1 g ||| 2 ^ k), m1 (gJ G1) g (gJ G1 g ||| 2 ^ k), gL G1, m1 (gH G1) (8 * g + k) (gT G1), gT G1) := by unfold joinG; rw [← eG]; rfl
    rw [eq2] at hGI2 h
    refine c_settle hC (by rw [F19.2]; exact hR) hG (Fg_CL hC hCL F19) hD0 hlf G19 hGI2 hn hg hend he ?_
    intro G' L' M' hs hGC' hCL' F' hb'
    have hR' : SR q nL (mR M') := by rw [F'.2, F19.2]; exact hR
    have key := h G' L' M' hs hGC' hCL' (Fr_trans (Fg_Fc F19) F') (fun j hj => by rw [hb' j hj, Fg_11 hC F19])
    have hI' := SetR_GI hs hGI2
    by_cases hdn : lD L' = 0
    · rw [if_pos hdn] at key ⊢
      refine ⟨fun _ => ⟨_, sr_0_26_2 hR', sk_0_28 hC, vin _ (sn_0_28 hC), ?_⟩, fun z => absurd z (by decide)⟩
      have := (hI'.2.2 g hg).2.1
      rw [hgc, hGC'.2.2.1 g hg, nIeq (x := 2) (b := 2) rfl (by omega) (by omega)]
      refine ⟨fun c => by rwa [if_neg c] at key, fun c => ⟨_, sr_0_26_1 hR', sk_0_27 hC, vin _ (sn_0_27 hC), ?_⟩⟩
      rw [if_pos c] at key
      rw [hGC'.2.1 g hg]; exact key
    · rw [if_neg hdn] at key ⊢
      exact ⟨fun z => absurd rfl z, fun _ => key⟩
  refine ⟨fun c => rest G M (by rw [if_pos c]) hGI hGC (Fr_refl _ _ _), fun c => c_mix hC hR hGC hg (fun M' F' J' G' => rest (mixG G g) M' (by rw [if_neg c]) (GI_mix hGI) G' F')⟩
/-- a member leaves -/
def leavG (G : GSt) (g k : Nat) : GSt :=
  let G1 := joiG (memG G g (gM G g &&& (255 ^^^ 2 ^ k))) g (gJ G g &&& (255 ^^^ 2 ^ k))
  if gM G1 g = 0 then empG G1 g else if gS G1 g = 2 then mixG G1 g else G1
theorem GI_weak {n : Nat} {G : GSt} {g a b : Nat} (h : GI n G) (ha : a < 256) (hb : b < 256) (hs : sub8 b a) : (a = 0 → GI n (empG (joiG (memG G g a) g b) g)) ∧ GI n (mixG (joiG (memG G g a) g b) g) := by
  refine ⟨fun _ => ?_, ?_⟩
  · refine GI_at g h (fun i hi => ⟨rfl, m1_nat _ _ hi, ?_, ?_, rfl⟩) rfl h.2.1 (fun hg => ?_)
    · show m1 (m1 (gM G) g a) g 0 i = _; rw [m1_nat _ _ hi, m1_nat _ _ hi]
    · show m1 (m1 (gJ G) g b) g 0 i = _; rw [m1_nat _ _ hi, m1_nat _ _ hi]
    · obtain ⟨p, b', c, d, e, f, i, j⟩ := h.2.2 g hg
      have e1 : gS (empG (joiG (memG G g a) g b) g) g = 0 := m1_at _ _ _
      have e2 : gM (empG (joiG (memG G g a) g b) g) g = 0 := m1_at _ _ _
      have e3 : gJ (empG (joiG (memG G g a) g b) g) g = 0 := m1_at _ _ _
      unfold GIg
      rw [e1, e2, e3]
      exact ⟨p, by decide, by decide, by decide, sub8_0 _, f, fun z => absurd z (by decide), fun _ => ⟨rfl, rfl⟩⟩
  · refine GI_at g h (fun i hi => ⟨rfl, m1_nat _ _ hi, m1_nat _ _ hi, ?_, m1_nat _ _ hi⟩) rfl h.2.1 (fun hg => ?_)
    · show m1 (m1 (gJ G) g b) g 0 i = _; rw [m1_nat _ _ hi, m1_nat _ _ hi]
    · obtain ⟨p, b', c, d, e, f, i, j⟩ := h.2.2 g hg
      have e1 : gS (mixG (joiG (memG G g a) g b) g) g = 1 := m1_at _ _ _
      have e2 : gM (mixG (joiG (memG G g a) g b) g) g = a := m1_at _ _ _
      have e3 : gJ (mixG (joiG (memG G g a) g b) g) g = 0 := m1_at _ _ _
      have e4 : gL (mixG (joiG (memG G g a) g b) g) g = gT G + 20 := m1_at _ _ _
      unfold GIg
      rw [e1, e2, e3, e4]
      exact ⟨p, by decide, ha, by decide, sub8_0 _, Nat.le_refl _, fun z => absurd z (by decide), fun z => absurd z (by decide)⟩
theorem GI_leav {n : Nat} {G : GSt} {g k : Nat} (h : GI n G) (hg : g < 8) (hk : k < 8) (hm : (gM G g).testBit k = true) : GI n (leavG G g k) := by
  obtain ⟨p, b', c, d, e, f, i, j⟩ := h.2.2 g hg
  have w := GI_weak (g := g) h (bn_lt ⟨_, c⟩ ⟨k, hk⟩) (bn_lt ⟨_, d⟩ ⟨k, hk⟩) (sub8_no d c hk e)
  unfold leavG
  dsimp only
  split
  · next z => exact w.1 (by have : m1 (gM G) g (gM G g &&& (255 ^^^ 2 ^ k)) g = 0 := z; rwa [m1_at] at this)
  · split
    · exact w.2
    · next z1 z2 =>
      have s : gS G g ≠ 2 := z2
      have s0 : gS G g ≠ 0 := fun z => by have := (j z).1; rw [this] at hm; simp at hm
      exact GI_mj h (bn_lt ⟨_, c⟩ ⟨k, hk⟩) (bn_lt ⟨_, d⟩ ⟨k, hk⟩) (sub8_no d c hk e) (Or.inl (by omega))
theorem c_depart {Y : Ly} {q : Nat → Nat → Nat} {nL W nB : Nat} {M : Mm} {st : Nat → Int64} {L : LSt} {G : GSt} {g k n e : Nat} {Kn : Int32 → Mm → Prop} (hC : SC Y q nL W nB) (hR : SR q nL (mR M)) (hG : Geo nL W nB (lS L)) (hCL : CL q nL W nB M st L) (hD0 : lD L = 0) (hlf : LfOK (lL L)) (hGC : GC q M G) (hGI : GI n G) (hn : n < 2 ^ 30) (hg : g < 8) (hk : k < 8) (hend : lE L nL = lN e) (he : e < 2 ^ 62) (h8 : ¬ (gM G g).testBit k = true → Kn (-8) M)
    (h : (gM G g).testBit k = true → ∀ G' L' M', SetR nL W nB g (leavG G g k) L G' L' → GC q M' G' → CL q nL W nB M' st L' → Fr q (Fc nL) M M' → (∀ j, j < 1024 → mI M' (q 0 11) j = mI M (q 0 11) j) → Kn (if lD L' = 0 then 1 else -3) M') : f_X7_depart Y (q 0 26) (nI g) (nI k) M Kn := by
  have vin : ∀ b, yN Y b = 8 → vp_in (nI g) (yN Y b) := fun b hb => by rw [hb]; exact vp_in_nI hg (by decide)
  have hgc : (nI g).toNatClampNeg = g := nI_clamp (by omega)
  obtain ⟨p, b', c, d, ee, f, i, j⟩ := hGI.2.2 g hg
  unfold f_X7_depart
  refine ⟨sk_0_26 hC, c_has hC hR hGC hg hk c ?_⟩
  unfold bt1
  by_cases hm : (gM G g).testBit k = true
  · rw [if_pos hm]
    have h := h hm
    have hGI2 := GI_leav hGI hg hk hm
    refine ⟨fun _ => ⟨_, sr_0_26_3 hR, sk_0_29 hC, vin _ (sn_0_29 hC), vin _ (sn_0_29 hC), fun M9 e9 => ⟨q 0 30, by rw [e9]; exact sr_0_26_4 hR, sk_0_30 hC, vin _ (sn_0_30 hC), vin _ (sn_0_30 hC), fun M14 e14 => ⟨q 0 29, by rw [e14, e9]; exact sr_0_26_3 hR, sk_0_29 hC, vin _ (sn_0_29 hC), ?_⟩⟩⟩, fun z => absurd z (by decide)⟩
    rw [hgc, hGC.2.2.2.1 g hg, bz_no ⟨_, c⟩ ⟨k, hk⟩] at e9
    have G9 := GC_29 hC hGC e9
    rw [hgc, G9.2.2.2.2.1 g hg] at e14
    have eb : nI (gJ G g) &&& (((1 : Int32) <<< (nI k &&& 31)) ^^^ (-1)) = nI (gJ G g &&& (255 ^^^ 2 ^ k)) := bz_no ⟨_, d⟩ ⟨k, hk⟩
    have e14' : M14 = sI M9 (q 0 30) (m1 (mI M9 (q 0 30)) g (nI (gJ G g &&& (255 ^^^ 2 ^ k)))) := by rw [e14, ← eb]; rfl
    have G14 := GC_30 hC G9 e14'
    have F14 : Fr q Fg M M14 := Fr_trans (Fr_e e9 ⟨rfl, by omega⟩) (Fr_e e14 ⟨rfl, by omega⟩)
    have hR14 : SR q nL (mR M14) := by rw [F14.2]; exact hR
    obtain ⟨G1, eG1⟩ : ∃ G1, G1 = joiG (memG G g (gM G g &&& (255 ^^^ 2 ^ k))) g (gJ G g &&& (255 ^^^ 2 ^ k)) := ⟨_, rfl⟩
    have G14' : GC q M14 G1 := by rw [eG1]; exact G14
    have eLv : leavG G g k = if gM G1 g = 0 then empG G1 g else if gS G1 g = 2 then mixG G1 g else G1 := by rw [eG1]; rfl
    have m1lt : gM G1 g < 256 := by rw [eG1]; show m1 (gM G) g _ g < 256; rw [m1_at]; exact bn_lt ⟨_, c⟩ ⟨k, hk⟩
    have s1le : gS G1 g ≤ 2 := by rw [eG1]; exact b'
    have fin : ∀ M18, Fr q Fg M M18 → GC q M18 (leavG G g k) → f_X7_depart_72 Y (q 0 26) (nI g) Kn M18 := by
      intro M18 F18 G18
      unfold f_X7_depart_72 f_X7_depart_86
      refine c_settle hC (by rw [F18.2]; exact hR) hG (Fg_CL hC hCL F18) hD0 hlf G18 hGI2 hn hg hend he ?_
      intro G' L' M' hs hGC' hCL' F' hb'
      have key := h G' L' M' hs hGC' hCL' (Fr_trans (Fg_Fc F18) F') (fun j hj => by rw [hb' j hj, Fg_11 hC F18])
      by_cases hdn : lD L' = 0
      · rw [if_pos hdn] at key ⊢
        exact ⟨fun z => absurd z (by decide), fun _ => key⟩
      · rw [if_neg hdn] at key ⊢
        exact ⟨fun _ => key, fun z => absurd rfl z⟩
    rw [hgc, G14'.2.2.2.1 g hg, nIeq (x := 0) (b := 0) rfl (by omega) (by omega)]
    refine ⟨fun c1 => ⟨q 0 28, sr_0_26_2 hR14, sk_0_28 hC, vin _ (sn_0_28 hC), ?_⟩, fun c1 => c_empty hC hR14 G14' hg (fun M' F' J' G' => fin M' (Fr_trans F14 F') (by rw [eLv, if_pos c1]; exact G'))⟩
    rw [G14'.2.2.1 g hg, nIeq (x := 2) (b := 2) rfl (by omega) (by omega)]
    exact ⟨fun c2 => fin M14 F14 (by rw [eLv, if_neg c1, if_neg c2]; exact G14'), fun c2 => c_mix hC hR14 G14' hg (fun M' F' J' G' => fin M' (Fr_trans F14 F') (by rw [eLv, if_neg c1, if_pos c2]; exact G'))⟩
  · rw [if_neg hm]
    exact ⟨fun z => absurd rfl z, fun _ => h8 hm⟩
