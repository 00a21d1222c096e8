/-! the model strips a batch -/
def PSp : Nat → Nat → Nat → Prop := fun a b j => a = 20 ∧ ((b = 0 ∧ (j = 25 ∨ (41 ≤ j ∧ j ≤ 52))) ∨ b = 24 ∨ b = 25 ∨ b = 63 ∨ b = 64)
def olen : Option Bt → Nat
  | none => 0
  | some b => b.length
theorem LogM_hp {q : Nat → Nat → Nat} {nL W nB : Nat} {M M' : Mm} {st en : Nat → Int64} {S : Nat → List Sg} {B : List Bm} {hp ht ht' : Nat} (h : LogM q nL W nB M st en S B hp ht) (e : EfH q PSp M M') (hlo : ∀ j, j < ht → mI M' (q 20 hp) j = mI M (q 20 hp) j) (h25 : mI M' (q 20 0) 25 = nI ht') (h1 : ht ≤ ht') (h2 : ht' ≤ 524288) : LogM q nL W nB M' st en S B hp ht' := by
  obtain ⟨a1, a4, a5, a6, a7, ⟨b1, b2, b3, b4, b5⟩, a9, a10, a11⟩ := h
  have f : ∀ j, ¬ (j = 25 ∨ (41 ≤ j ∧ j ≤ 52)) → mI M' (q 20 0) j = mI M (q 20 0) j := fun j hj => Ef_i e.1 (by unfold PSp; omega)
  have g : ∀ b, 1 ≤ b → ¬ (b = 24 ∨ b = 25 ∨ b = 63 ∨ b = 64) → mI M' (q 20 b) = mI M (q 20 b) := fun b h0 hb => Ef_I e.1 (fun j => by unfold PSp; omega)
  have gJ : ∀ b, 1 ≤ b → ¬ (b = 24 ∨ b = 25 ∨ b = 63 ∨ b = 64) → mJ M' (q 20 b) = mJ M (q 20 b) := fun b h0 hb => Ef_J e.1 (fun j => by unfold PSp; omega)
  refine ⟨⟨by rw [f 1 (by decide)]; exact a1.1, by rw [f 2 (by decide)]; exact a1.2.1, by rw [f 3 (by decide)]; exact a1.2.2⟩, by rw [f 18 (by decide)]; exact a4, h25, h2, ⟨a7.1, by rw [e.2.1]; exact a7.2.1, by rw [e.2.2]; exact a7.2.2⟩, ⟨by rw [g 20 (by decide) (by decide)]; exact b1, by rw [g 21 (by decide) (by decide)]; exact b2, by rw [g 22 (by decide) (by decide)]; exact b3, by rw [g 23 (by decide) (by decide)]; exact b4, fun x hx => ?_⟩, by rw [g 29 (by decide) (by decide), g 30 (by decide) (by decide), g 31 (by decide) (by decide)]; exact a9, by rw [gJ 27 (by decide) (by decide), gJ 28 (by decide) (by decide)]; exact a10, a11⟩
  obtain ⟨c1, c2, c3⟩ := b5 x hx
  refine ⟨by omega, Lie_same c2 (fun j h1 h2 => hlo j ?_), c3⟩
  rw [m8_len] at h2
  have : mN x = (mB x).length := rfl
  omega
theorem g_max {t g : Int64} : (t ≤ g → (if t < g then g else t) = g) ∧ (¬ t ≤ g → (if t < g then g else t) = t) := by
  refine ⟨fun h => ?_, fun h => if_neg (fun z => h (Int64.le_of_lt z))⟩
  by_cases z : t < g
  · exact if_pos z
  · rw [if_neg z]; exact Int64.le_antisymm h (Int64.not_lt.mp z)
set_option maxRecDepth 20000 in
theorem m_strip {Y : Ly} {q : Nat → Nat → Nat} {nL W nB : Nat} {hp ht : Nat} {S : Nat → List Sg} {B : List Bm} {st en : Nat → Int64} {M : Mm} (hC : SC Y q nL W nB) (hM : SM q (mR M)) (hG : Geo nL W nB S) (hLM : LogM q nL W nB M st en S B hp ht) (hOK : LogOK nL S) {l i : Nat} {x : Bm} {y : Nat × Bt} {now : Int32} {Kn : Int32 → Mm → Prop} (hl : l ≤ nL) (hx : B[i]? = some x) (hcl : clo (S l) l x) (hy : (PS (S l))[(mb l (B.take i)).length]? = some y) (h53 : mI M (q 20 0) 53 = nI (Rm l B).length) (hrec : RecA q M (Rm l B)) (hgo : GoF (mI M (q 20 60)) (fun r e => (tmb now e ∨ dm ((Rm l B).map kyE) r) ∧ clo (S l) l e.2.1) (Rm l B)) (hcap : ht + mN x ≤ 524288)
    (h : ∀ M' o, o = kop (aq (PS (S l))) now (BS (S l)) y (mb l (B.take i)).length → EfH q PSp M M' → LogM q nL W nB M' st en S B hp (ht + (kbt (aq (PS (S l))) now y.1 (mB x)).length) → (∀ j, j < ht → mI M' (q 20 hp) j = mI M (q 20 hp) j) → Lie (mI M' (q 20 hp)) ht (m8 (kbt (aq (PS (S l))) now y.1 (mB x))) → mI M' (q 20 63) = m1 (mI M (q 20 63)) i (nI ht) → mI M' (q 20 64) = m1 (mI M (q 20 64)) i (nI (olen o)) → Kn (nI (rsB (mB x)).length) M') : f_X12_strip Y (q 20 0) (nI i) (nI (Rm l (B.take i)).length) M Kn := by
  have hd := sdims hC
  have hlk := hLM.2.2.2.2.2.2.2.2
  have hct := Lnk_count hG hlk
  have hbd := Rm_bd hG hOK hlk hl hd.2.2.2.2.2
  have hi := some_lt hx
  have hxl := hcl.1
  have hbx := m_bok hOK hLM hx
  obtain ⟨la, hla, hlaB, hrb⟩ := Bat_rec hbx
  obtain ⟨v1, v2, v3, v4, v5, v6, v7, v8, v9⟩ := m_at hG hLM hx
  have hH := hLM.2.2.2.2.1
  obtain ⟨kh, nh⟩ := hp_k hC hH.1
  have hbt := hLM.2.2.2.2.2.1.2.2.2.2 x (List.mem_of_getElem? hx)
  have hp24 : hp = 24 ∨ hp = 25 := hH.1
  have hmN : mN x = (mB x).length := rfl
  obtain ⟨b, eb⟩ : ∃ b, b = mB x := ⟨_, rfl⟩
  obtain ⟨Q, eQ⟩ : ∃ Q, Q = aq (PS (S l)) := ⟨_, rfl⟩
  obtain ⟨r0, er0⟩ : ∃ r0, r0 = (Rm l (B.take i)).length := ⟨_, rfl⟩
  rw [← eb] at hbx hlaB hrb v5 v6 hmN hbt
  rw [← eb, ← eQ] at h
  rw [← er0]
  have h61 := hbx.1
  have hnr := hrb.2.2.1
  have hRle : r0 + (rsB b).length ≤ (Rm l B).length := by
    have := Rm_le (l := l) (B := B) (show i + 1 ≤ B.length by omega)
    rw [Rm_s hx, if_pos hxl, List.length_append, rcs_len, ← eb, ← er0] at this; exact this
  have hRat : ∀ k c, (rsB b)[k]? = some c → (Rm l B)[r0 + k]? = some (i, x, k, c) := fun k c hc => by
    rw [er0]; exact Rm_ix hx hxl (by rw [← eb]; exact hc)
  have hgon : ∀ k c, (rsB b)[k]? = some c → (mI M (q 20 60) (r0 + k) = 1 ∧ gon Q now (ftB b) (rq b y.1 k c) c) ∨ (mI M (q 20 60) (r0 + k) = 0 ∧ ¬ gon Q now (ftB b) (rq b y.1 k c) c) := fun k c hc => by
    have g := (gon_m (now := now) hG hOK hlk hl hd.2.2.1 hx hxl hy (by rw [← eb]; exact hc)).2
    rw [← eb, ← eQ, ← er0] at g
    rcases hgo _ _ (hRat k c hc) with ⟨a1, a2⟩ | ⟨a1, a2⟩
    · exact Or.inl ⟨a1, g.mpr a2.1⟩
    · exact Or.inr ⟨a1, fun z => a2 ⟨g.mp z, hcl⟩⟩
  have hkl := kbt_len (Q := Q) (now := now) (p := y.1) hbx
  have bod : ∀ k, k ≤ (rsB b).length → 61 + (kst Q now y.1 b k).1.length ≤ b.length := fun k hk => by
    have a1 := (kst_le (Q := Q) (now := now) (p := y.1) hbx k hk).1
    have a2 := (rp_7 hrb.1 h61 k hk).2
    omega
  have ci : (nI i).toNatClampNeg = i := nI_clamp (by omega)
  have vin : ∀ c, yN Y c = 4500 → vp_in (nI i) (yN Y c) := fun c hc => by rw [hc]; exact vp_in_nI (by omega) (by decide)
  have vh : ∀ j, j < 540000 → vp_in (nI j) (yN Y (q 20 hp)) := fun j hj => by rw [nh]; exact vp_in_nI hj (by decide)
  unfold f_X12_strip
  refine ⟨sk_20_0 hC, _, sm_62 hM, sk_20_63 hC, vin _ (sn_20_63 hC), fun M5 e5 => ?_⟩
  rw [ci, hLM.2.2.1] at e5
  have E5 : EfH q PSp M M5 := EfH_sI hC e5 ⟨rfl, by omega⟩
  have o5 : ∀ c, c ≠ 63 → mI M5 (q 20 c) = mI M (q 20 c) := fun c hc => by rw [e5]; exact I_ne hC _ _ (by omega)
  have a5 : mI M5 (q 20 63) = m1 (mI M (q 20 63)) i (nI ht) := by rw [e5, mI_sI_self]
  have hM5 := Ef_SM E5.1 hM
  have hH5 : mR M5 (q 20 0) 23 = some (q 20 hp) := by rw [E5.2.1]; exact hH.2.1
  have hp63 : hp ≠ 63 := by omega
  refine LOOP2_inv (fun x6 M7 => ∃ k F, k ≤ 61 ∧ x6 = nI k ∧ M7 = sI M5 (q 20 hp) F ∧ (∀ j, j < ht → F j = mI M (q 20 hp) j) ∧ Lie F ht ((m8 b).take k)) (fun x6 _ => 61 - x6.toNatClampNeg) ?_ _ _ ⟨0, mI M5 (q 20 hp), by omega, rfl, by rw [sI_same], fun j _ => by rw [o5 hp hp63], trivial⟩
  rintro x6 M7 again ⟨k, F, hk, rfl, e7, lo7, lie7⟩ hag
  have i7 : ∀ c, c ≠ hp → mI M7 (q 20 c) = mI M5 (q 20 c) := fun c hc => by rw [e7]; exact I_ne hC _ _ (by omega)
  have h7 : mI M7 (q 20 hp) = F := by rw [e7, mI_sI_self]
  have R7 : mR M7 = mR M5 := by rw [e7]; rfl
  have z7 : mI M7 (q 20 0) 25 = nI ht := by rw [i7 0 (by omega), o5 0 (by decide)]; exact hLM.2.2.1
  unfold L_X12_strip_12
  rw [show (61 : Int32) = nI 61 from rfl, nI_cmp (by decide) (by omega), z7]
  refine ⟨fun c => ?_, fun c => ?_⟩
  rotate_left
  · refine ⟨_, by rw [R7]; exact hH5, _, by rw [R7]; exact hH5, _, by rw [R7]; exact sm_20 hM5, sk_20_21 hC, vin _ (sn_20_21 hC), kh, ?_⟩
    rw [ci, i7 21 (by omega), o5 21 (by decide), v2, nI_add, nI_add, nI_clamp (by omega), nI_clamp (by omega), h7]
    refine ⟨vh _ (by omega), kh, vh _ (by omega), fun M117 e117 x118 e118 => ?_⟩
    rw [nI_1] at e118
    subst e118
    refine hag _ _ ⟨k + 1, m1 F (ht + k) (F (mA x + k)), by omega, rfl, by rw [e117, e7, sI_sI], fun j hj => by rw [m1_nat _ _ (by omega)]; exact lo7 j hj, ?_⟩ (by rw [nI_clamp (by omega), nI_clamp (by omega)]; omega)
    have hkl2 : k < (m8 b).length := by rw [m8_len]; omega
    rw [take_s (List.getElem?_eq_getElem hkl2)]
    have lk : ((m8 b).take k).length = k := by rw [List.length_take]; omega
    refine Lie_app.mpr ⟨Lie_same lie7 (fun j h1 h2 => m1_nat _ _ (by rw [lk] at h2; omega)), ?_⟩
    rw [lk]
    refine ⟨?_, trivial⟩
    rw [m1_at, lo7 _ (by omega), Lie_get v5 hkl2, List.getD_eq_getElem?_getD, List.getElem?_eq_getElem hkl2]; rfl
  have ek : k = 61 := by omega
  subst ek
  intro M9 e9
  rw [nI_add] at e9
  have E7 : EfH q PSp M M7 := EfH_trans E5 (EfH_sIr hC e7 (fun j => ⟨rfl, by omega⟩))
  have e9' : M9 = sI M7 (q 20 0) (m1 (mI M7 (q 20 0)) 25 (nI (ht + 61))) := e9
  have E9 : EfH q PSp M M9 := EfH_trans E7 (EfH_sI hC e9' ⟨rfl, by omega⟩)
  have o9 : ∀ c, c ≠ 0 → mI M9 (q 20 c) = mI M7 (q 20 c) := fun c hc => by rw [e9]; exact I_ne hC _ _ (by omega)
  have tk61 : (m8 b).take 61 = m8 (b.take 61) := by rw [m8_take]
  rw [tk61] at lie7
  -- what holds while records are copied
  obtain ⟨Inv, eInv⟩ : ∃ Inv : List Int32 → Mm → Prop, Inv = fun bd M' => EfH q PSp M M' ∧ mI M' (q 20 0) 25 = nI (ht + 61 + bd.length) ∧ mI M' (q 20 63) = m1 (mI M (q 20 63)) i (nI ht) ∧ mI M' (q 20 64) = mI M (q 20 64) ∧ (∀ j, j < ht → mI M' (q 20 hp) j = mI M (q 20 hp) j) ∧ Lie (mI M' (q 20 hp)) ht (m8 (b.take 61)) ∧ Lie (mI M' (q 20 hp)) (ht + 61) (m8 bd) := ⟨_, rfl⟩
  have inv9 : Inv [] M9 := by
    rw [eInv]
    refine ⟨E9, by rw [e9', mI_sI_self, m1_at]; rfl, by rw [o9 63 (by decide), i7 63 (by omega)]; exact a5, by rw [o9 64 (by decide), i7 64 (by omega), o5 64 (by decide)], fun j hj => by rw [o9 hp (by omega), h7]; exact lo7 j hj, by rw [o9 hp (by omega), h7]; exact lie7, trivial⟩
  have invLM : ∀ {bd : List Int32} {M' : Mm}, 61 + bd.length ≤ b.length → Inv bd M' → LogM q nL W nB M' st en S B hp (ht + 61 + bd.length) := by
    intro bd M' hbl hv
    rw [eInv] at hv
    exact LogM_hp hLM hv.1 hv.2.2.2.2.1 hv.2.1 (by omega) (by omega)
  have invS : ∀ {bd : List Int32} {M' M'' : Mm}, Inv bd M' → Scr q M' M'' → Inv bd M'' := by
    intro bd M' M'' hv hs
    rw [eInv] at hv ⊢
    obtain ⟨w1, w2, w3, w4, w5, w6, w7⟩ := hv
    have e := EfH_Scr hC hs
    have eh : mI M'' (q 20 hp) = mI M' (q 20 hp) := Ef_I e.1 (fun j => by unfold P4; omega)
    exact ⟨EfH_trans w1 (EfH_mono e (fun a b j z => by unfold P4 at z; unfold PSp; omega)), by rw [Ef_i e.1 (by unfold P4; omega)]; exact w2, by rw [Ef_I e.1 (fun j => by unfold P4; omega)]; exact w3, by rw [Ef_I e.1 (fun j => by unfold P4; omega)]; exact w4, by rw [eh]; exact w5, by rw [eh]; exact w6, by rw [eh]; exact w7⟩
  have recs : ∀ {M' : Mm}, EfH q PSp M M' → RecA q M' (Rm l B) ∧ mI M' (q 20 60) = mI M (q 20 60) ∧ mI M' (q 20 0) 53 = nI (Rm l B).length := by
    intro M' e
    refine ⟨?_, Ef_I e.1 (fun j => by unfold PSp; omega), by rw [Ef_i e.1 (by unfold PSp; omega)]; exact h53⟩
    unfold RecA
    rw [Ef_I e.1 (fun j => by unfold PSp; omega), Ef_I e.1 (fun j => by unfold PSp; omega), Ef_I e.1 (fun j => by unfold PSp; omega), Ef_I e.1 (fun j => by unfold PSp; omega), Ef_I e.1 (fun j => by unfold PSp; omega)]
    exact hrec
  refine LOOP4_inv (fun x10 x11 x12 M13 => ∃ k, k ≤ (rsB b).length ∧ x12 = nI (r0 + k) ∧ x10 = nI (kst Q now y.1 b k).2.1 ∧ x11 = (kst Q now y.1 b k).2.2 ∧ Inv (kst Q now y.1 b k).1 M13) (fun _ _ x12 _ => r0 + (rsB b).length - x12.toNatClampNeg) ?_ _ _ _ _ ⟨0, by omega, rfl, rfl, rfl, inv9⟩
  rintro x10 x11 x12 M13 again2 ⟨k, hk, rfl, rfl, rfl, inv13⟩ hag2
  have inv13' := inv13
  rw [eInv] at inv13'
  obtain ⟨E13, z13, n13, l13, lo13, hd13, bd13⟩ := inv13'
  obtain ⟨rec13, go13, f53⟩ := recs E13
  have hM13 := Ef_SM E13.1 hM
  have hbk := bod k hk
  have hLM13 := invLM hbk inv13
  have kc := (kst_le (Q := Q) (now := now) (p := y.1) hbx k hk).2
  have crk : (nI (r0 + k)).toNatClampNeg = r0 + k := nI_clamp (by omega)
  have fin : k = (rsB b).length → f_X12_strip_213 Y (q 20 0) (nI i) (nI r0) Kn (nI (kst Q now y.1 b k).2.1) (kst Q now y.1 b k).2.2 (nI (r0 + k)) M13 := by
    intro ek
    subst ek
    have hb29 : (kst Q now y.1 b (rsB b).length).1.length < 2 ^ 29 := by have := hbx.2.1; omega
    obtain ⟨bd, ebd⟩ : ∃ bd, bd = (kst Q now y.1 b (rsB b).length).1 := ⟨_, rfl⟩
    obtain ⟨ct, ect⟩ : ∃ ct, ct = (kst Q now y.1 b (rsB b).length).2.1 := ⟨_, rfl⟩
    have ekb : kbt Q now y.1 b = keB b (nI ct) (kgt Q now y.1 b) bd := by rw [ect, ebd]; rfl
    rw [← ebd] at z13 bd13 hbk hb29 hkl
    rw [← ect]
    rw [← ect] at kc
    unfold f_X12_strip_213
    refine ⟨_, sm_63 hM13, _, sm_62 hM13, sk_20_63 hC, vin _ (sn_20_63 hC), sk_20_64 hC, vin _ (sn_20_64 hC), fun M20 e20 => ?_⟩
    rw [ci, n13, m1_at, z13, pk_sub (by omega), show ht + 61 + bd.length - ht = 61 + bd.length by omega] at e20
    have E20 : EfH q PSp M M20 := EfH_trans E13 (EfH_sI hC e20 ⟨rfl, by omega⟩)
    have o20 : ∀ c, c ≠ 64 → mI M20 (q 20 c) = mI M13 (q 20 c) := fun c hc => by rw [e20]; exact I_ne hC _ _ (by omega)
    have l20 : mI M20 (q 20 64) = m1 (mI M (q 20 64)) i (nI (61 + bd.length)) := by rw [e20, mI_sI_self, l13]
    have hM20 := Ef_SM E20.1 hM
    have hH20 : mR M20 (q 20 0) 23 = some (q 20 hp) := by rw [E20.2.1]; exact hH.2.1
    obtain ⟨g0, eg0⟩ : ∃ g0, g0 = mI M13 (q 20 hp) := ⟨_, rfl⟩
    rw [← eg0] at hd13 bd13 lo13
    have g20 : mI M20 (q 20 hp) = g0 := by rw [o20 hp (by omega), eg0]
    -- the end, with the greatest time in its place
    have fin2 : ∀ M29 : Mm, M29 = sI M20 (q 20 hp) (wr (wr g0 (ht + 8) (m8 (pb (lN (49 + bd.length)) 4))) (ht + 35) (m8 (pb (kgt Q now y.1 b) 8))) → f_X12_strip_281 Y (q 20 0) (nI i) (nI r0) Kn (nI ct) (nI (r0 + (rsB b).length)) M29 := by
      intro M29 e29
      obtain ⟨f1, f2⟩ := ms_form (cnt := nI ct) (gt := kgt Q now y.1 b) h61 hd13 bd13
      rw [← ekb] at f2
      obtain ⟨G29, eG29⟩ : ∃ G29, G29 = wr (wr g0 (ht + 8) (m8 (pb (lN (49 + bd.length)) 4))) (ht + 35) (m8 (pb (kgt Q now y.1 b) 8)) := ⟨_, rfl⟩
      rw [← eG29] at e29 f1 f2
      have lo29 : ∀ j, j < ht → G29 j = g0 j := fun j hj => by rw [eG29, wr_out _ _ _ _ (by omega), wr_out _ _ _ _ (by omega)]
      have i29 : ∀ c, c ≠ hp → mI M29 (q 20 c) = mI M20 (q 20 c) := fun c hc => by rw [e29]; exact I_ne hC _ _ (by omega)
      have h29 : mI M29 (q 20 hp) = G29 := by rw [e29, mI_sI_self]
      have R29 : mR M29 = mR M20 := by rw [e29]; rfl
      have hM29 : SM q (mR M29) := by rw [R29]; exact hM20
      have hH29 : mR M29 (q 20 0) 23 = some (q 20 hp) := by rw [R29]; exact hH20
      have n29 : mI M29 (q 20 63) i = nI ht := by rw [i29 63 (by omega), o20 63 (by decide), n13, m1_at]
      unfold f_X12_strip_281 f_X12_strip_356
      refine ⟨_, hH29, _, sm_62 hM29, sk_20_63 hC, vin _ (sn_20_63 hC), ?_⟩
      rw [ci, n29, show (57 : Int32) = nI 57 from rfl, nI_add]
      refine w_set (n := 4) kh (by rw [nh]; omega) (by rw [nh]; decide) ?_
      rw [h29]
      obtain ⟨G34, eG34⟩ : ∃ G34, G34 = wr G29 (ht + 57) (m8 (pb (nI ct).toInt64 4)) := ⟨_, rfl⟩
      rw [← eG34] at f1 f2 ⊢
      have lo34 : ∀ j, j < ht → G34 j = g0 j := fun j hj => by rw [eG34, wr_out _ _ _ _ (by omega)]; exact lo29 j hj
      obtain ⟨M34, e34⟩ : ∃ M34, M34 = sI M29 (q 20 hp) G34 := ⟨_, rfl⟩
      rw [← e34]
      have i34 : ∀ c, c ≠ hp → mI M34 (q 20 c) = mI M20 (q 20 c) := fun c hc => by rw [e34, I_ne hC _ _ (by omega)]; exact i29 c hc
      have h34 : mI M34 (q 20 hp) = G34 := by rw [e34, mI_sI_self]
      have R34 : mR M34 = mR M20 := by rw [e34]; exact R29
      have hM34 : SM q (mR M34) := by rw [R34]; exact hM20
      have hH34 : mR M34 (q 20 0) 23 = some (q 20 hp) := by rw [R34]; exact hH20
      have n34 : mI M34 (q 20 63) i = nI ht := by rw [i34 63 (by omega), o20 63 (by decide), n13, m1_at]
      have z34 : mI M34 (q 20 0) 25 = nI (ht + 61 + bd.length) := by rw [i34 0 (by omega), o20 0 (by decide)]; exact z13
      refine ⟨q 20 hp, hH34, q 20 63, sm_62 hM34, sk_20_63 hC, vin _ (sn_20_63 hC), q 20 hp, hH34, q 20 63, sm_62 hM34, sk_20_63 hC, vin _ (sn_20_63 hC), ?_⟩
      have tlen : (keT b (nI ct) (kgt Q now y.1 b) bd).length = 40 + bd.length := keT_len _ _ _ h61
      rw [n34, z34, show (21 : Int32) = nI 21 from rfl, nI_add, show nI (ht + 61 + bd.length) = nI (ht + 21 + (keT b (nI ct) (kgt Q now y.1 b) bd).length) from by rw [tlen]; congr 1; omega]
      refine s_sum kh (by rw [nh, tlen]; omega) (by rw [nh]; decide) ?_
      rw [show (17 : Int32) = nI 17 from rfl, nI_add]
      refine w_set (n := 4) kh (by rw [nh]; omega) (by rw [nh]; decide) ?_
      rw [h34, sum_ck f1]
      obtain ⟨G45, eG45⟩ : ∃ G45, G45 = wr G34 (ht + 17) (m8 (pb (ckv (keT b (nI ct) (kgt Q now y.1 b) bd)).toInt64 4)) := ⟨_, rfl⟩
      rw [← eG45] at f2 ⊢
      have lo45 : ∀ j, j < ht → G45 j = mI M (q 20 hp) j := fun j hj => by rw [eG45, wr_out _ _ _ _ (by omega), lo34 j hj]; exact lo13 j hj
      obtain ⟨M45, e45⟩ : ∃ M45, M45 = sI M34 (q 20 hp) G45 := ⟨_, rfl⟩
      rw [← e45]
      have i45 : ∀ c, c ≠ hp → mI M45 (q 20 c) = mI M20 (q 20 c) := fun c hc => by rw [e45, I_ne hC _ _ (by omega)]; exact i34 c hc
      have h45 : mI M45 (q 20 hp) = G45 := by rw [e45, mI_sI_self]
      have E45 : EfH q PSp M M45 := EfH_trans E20 (EfH_trans (EfH_sIr hC e29 (fun j => ⟨rfl, by omega⟩)) (EfH_trans (EfH_sIr hC e34 (fun j => ⟨rfl, by omega⟩)) (EfH_sIr hC e45 (fun j => ⟨rfl, by omega⟩))))
      have hM45 := Ef_SM E45.1 hM
      have z45 : mI M45 (q 20 0) 25 = nI (ht + (kbt Q now y.1 b).length) := by rw [i45 0 (by omega), o20 0 (by decide), z13, hkl.1]; congr 1; omega
      have hLM45 := LogM_hp hLM E45 (fun j hj => by rw [h45]; exact lo45 j hj) z45 (by omega) (by omega)
      have n45 : mI M45 (q 20 63) = m1 (mI M (q 20 63)) i (nI ht) := by rw [i45 63 (by omega), o20 63 (by decide)]; exact n13
      have l45 : mI M45 (q 20 64) = m1 (mI M (q 20 64)) i (nI (61 + bd.length)) := by rw [i45 64 (by omega)]; exact l20
      have ey : y.2 = b := by
        have := (mb_take hx hxl).1
        rw [mb_BS hlk hl, ← PS_snd, List.getElem?_map, hy, ← eb] at this
        exact Option.some.inj this
      have ekc : kcn Q now y = ct := by
        obtain ⟨y1, y2⟩ := y
        have ey : y2 = b := ey
        subst ey
        rw [ect]; rfl
      have ek2 : kop Q now (BS (S l)) y (mb l (B.take i)).length = cif (ct = 0 ∧ ¬ kno (BS (S l)) (mb l (B.take i)).length b) none (some (kbt Q now y.1 b)) := by
        unfold kop
        rw [ekc, ey]
      rw [pk_sub (by omega), Nat.add_sub_cancel_left]
      have yes : ¬ (ct = 0 ∧ ¬ kno (BS (S l)) (mb l (B.take i)).length b) → Kn (nI (rsB b).length) M45 := fun hn => by
        have hko : some (kbt Q now y.1 b) = kop Q now (BS (S l)) y (mb l (B.take i)).length := by rw [ek2, cif_n hn]
        refine h M45 _ hko E45 hLM45 (fun j hj => by rw [h45]; exact lo45 j hj) (by rw [h45]; exact f2) n45 ?_
        show mI M45 (q 20 64) = m1 (mI M (q 20 64)) i (nI (kbt Q now y.1 b).length)
        rw [l45, hkl.1]
      rw [nIeq (x := 0) (b := 0) rfl (by omega) (by decide)]
      refine ⟨fun c2 => yes (fun w => c2 w.1), fun c2 => ?_⟩
      refine m_isKnown hC hM45 hG hLM45 hOK hl hx hxl (fun hkn => ⟨fun _ => yes (fun w => w.2 (by rw [eb]; exact hkn)), fun c3 => absurd c3 (by decide)⟩) (fun hkn => ⟨fun c3 => absurd rfl c3, fun _ => ?_⟩)
      refine ⟨_, sm_63 hM45, sk_20_64 hC, vin _ (sn_20_64 hC), fun M54 e54 => ?_⟩
      rw [l45, m1_m1] at e54
      have hko : none = kop Q now (BS (S l)) y (mb l (B.take i)).length := by rw [ek2, cif_y ⟨c2, by rw [eb]; exact hkn⟩]
      have E54 : EfH q PSp M M54 := EfH_trans E45 (EfH_sIr hC e54 (fun j => ⟨rfl, by omega⟩))
      have i54 : ∀ c, c ≠ 64 → mI M54 (q 20 c) = mI M45 (q 20 c) := fun c hc => by rw [e54]; exact I_ne hC _ _ (by omega)
      refine h M54 none hko E54 (LogM_hp hLM E54 (fun j hj => by rw [i54 hp (by omega), h45]; exact lo45 j hj) (by rw [i54 0 (by decide)]; exact z45) (by omega) (by omega)) (fun j hj => by rw [i54 hp (by omega), h45]; exact lo45 j hj) (by rw [i54 hp (by omega), h45]; exact f2) (by rw [i54 63 (by decide)]; exact n45) (by rw [e54, mI_sI_self]; rfl)
    refine ⟨_, hH20, _, sm_62 hM20, sk_20_63 hC, vin _ (sn_20_63 hC), _, sm_63 hM20, sk_20_64 hC, vin _ (sn_20_64 hC), ?_⟩
    rw [ci, o20 63 (by decide), n13, m1_at, l20, m1_at, show (8 : Int32) = nI 8 from rfl, nI_add, show (nI (61 + bd.length) - 12).toInt64 = lN (49 + bd.length) from by rw [show (12 : Int32) = nI 12 from rfl, pk_sub (by omega), nI_l (by omega)]; congr 1; omega]
    refine w_set (n := 4) kh (by rw [nh]; omega) (by rw [nh]; decide) ?_
    rw [g20, show (0 : Int32) = nI 0 from rfl, nI_cmp (by omega) (by decide)]
    obtain ⟨G28, eG28⟩ : ∃ G28, G28 = wr g0 (ht + 8) (m8 (pb (lN (49 + bd.length)) 4)) := ⟨_, rfl⟩
    rw [← eG28] at fin2 ⊢
    refine ⟨fun c2 => fin2 _ ?_, fun c2 => ?_⟩
    · have ec0 : ct = 0 := by omega
      have eg : kgt Q now y.1 b = gtB b := by unfold kgt; rw [← ect, if_pos ec0]
      rw [eg, gt_back hbx.2.2.1 h61, wr_same]
      have hd35 : Lie g0 (ht + 35) (m8 ((b.drop 35).take 8)) := by
        have h1 := Lie_take (Lie_drop hd13 35 (by rw [m8_len, List.length_take]; omega)) 8
        have e : ((m8 (b.take 61)).drop 35).take 8 = m8 ((b.drop 35).take 8) := by
          rw [m8_take, m8_take, m8_drop, List.drop_take, List.take_take]; rfl
        rwa [e] at h1
      rw [eG28]
      exact wr_keep hd35 (Or.inr (by rw [m8_len, pb_len]; omega))
    · have ec0 : ¬ ct = 0 := by omega
      have eg : kgt Q now y.1 b = (kst Q now y.1 b (rsB b).length).2.2 := by unfold kgt; rw [← ect, if_neg ec0]
      obtain ⟨M28, e28⟩ : ∃ M28, M28 = sI M20 (q 20 hp) G28 := ⟨_, rfl⟩
      rw [← e28]
      have R28 : mR M28 = mR M20 := by rw [e28]; rfl
      refine ⟨q 20 hp, by rw [R28]; exact hH20, q 20 63, by rw [R28]; exact sm_62 hM20, sk_20_63 hC, vin _ (sn_20_63 hC), ?_⟩
      rw [show mI M28 (q 20 63) i = nI ht from by rw [e28, I_ne hC _ _ (by omega), o20 63 (by decide), n13, m1_at], show (35 : Int32) = nI 35 from rfl, nI_add]
      refine w_set (n := 8) kh (by rw [nh]; omega) (by rw [nh]; decide) (fin2 _ ?_)
      rw [e28, mI_sI_self, sI_sI, eg]
  unfold L_X12_strip_67 f_X12_strip_207
  rw [f53, nI_cmp (by omega) (by omega)]
  refine ⟨fun c => fin (by omega), fun c => ?_⟩
  obtain ⟨e, he⟩ := lt_some (show r0 + k < (Rm l B).length by omega)
  have vrk : ∀ c, yN Y c = 40000 → vp_in (nI (r0 + k)) (yN Y c) := fun c hc => by rw [hc]; exact vp_in_nI (by omega) (by decide)
  obtain ⟨fe1, fe2, fe3, fe4, fe5⟩ := rec13 _ _ he
  obtain ⟨i2, x2, k2, c2, ee, hi2, hx2, hxl2, hc2, er2⟩ := Rm_at B.length (Nat.le_refl _) (by rw [List.take_of_length_le (Nat.le_refl _)]; exact he)
  refine ⟨_, sm_54 hM13, sk_20_55 hC, vrk _ (sn_20_55 hC), ?_⟩
  rw [crk, fe1, show e.1 = i2 from by rw [ee], nI_eq (by omega) (by omega)]
  by_cases zk : k = (rsB b).length
  · refine ⟨fun _ => fin zk, fun ci2 => ?_⟩
    exfalso
    subst ci2
    rw [← er0] at er2
    rw [hx] at hx2
    have hx2 : x = x2 := Option.some.inj hx2
    rw [← hx2, ← eb] at hc2
    have := (List.getElem?_eq_some_iff.mp hc2).1
    omega
  obtain ⟨c, hc⟩ := lt_some (show k < (rsB b).length by omega)
  have he2 := hRat k c hc
  rw [he] at he2
  have he2 : e = (i, x, k, c) := Option.some.inj he2
  have hii : i2 = i := by rw [ee] at he2; exact congrArg (fun z : ME => z.1) he2
  refine ⟨fun z => absurd hii z, fun _ => ⟨_, sm_59 hM13, sk_20_60 hC, vrk _ (sn_20_60 hC), ?_⟩⟩
  rw [go13]
  rw [he2] at fe2 fe3
  simp only [← eb] at fe2 fe3
  obtain ⟨r1, r2, r3⟩ := rp_at hrb.1 h61 hc
  have rs1 := rp_s hc
  have nx : ∀ (g' : Int64) (M' : Mm) (x69 : Int32), x69 = nI (kst Q now y.1 b (k + 1)).2.1 → g' = (kst Q now y.1 b (k + 1)).2.2 → Inv (kst Q now y.1 b (k + 1)).1 M' → ∀ x72, x72 = nI (r0 + k) + 1 → again2 x69 g' x72 M' := by
    intro g' M' x69 e69 eg inv x72 e72
    rw [nI_1] at e72
    subst e72 e69 eg
    exact hag2 _ _ _ _ ⟨k + 1, by omega, rfl, rfl, rfl, inv⟩ (by rw [nI_clamp (by omega), nI_clamp (by omega)]; omega)
  rcases hgon k c hc with ⟨w1, w2⟩ | ⟨w1, w2⟩
  · rw [w1]
    refine ⟨fun _ => nx _ M13 _ (by rw [kst_y hc w2]) (by rw [kst_y hc w2]) (by rw [kst_y hc w2]; exact inv13), fun z => absurd z (by decide)⟩
  rw [w1]
  refine ⟨fun z => absurd rfl z, fun _ => ?_⟩
  have hH13 : mR M13 (q 20 0) 23 = some (q 20 hp) := by rw [E13.2.1]; exact hH.2.1
  refine ⟨_, hH13, _, sm_55 hM13, sk_20_56 hC, vrk _ (sn_20_56 hC), _, sm_56 hM13, sk_20_57 hC, vrk _ (sn_20_57 hC), ?_⟩
  rw [fe2, fe3]
  refine m_reads hC (fun M81 S81 t40 t42 t41 _ _ => ?_)
  have inv81 := invS inv13 S81
  have hLM81 := invLM hbk inv81
  have inv81' := inv81
  rw [eInv] at inv81'
  obtain ⟨E81, z81, n81, l81, lo81, hd81, bd81⟩ := inv81'
  have hM81 := Ef_SM E81.1 hM
  refine m_ft hC hM81 hG hLM81 hx ?_
  rw [← eb]
  have bsl : ((b.drop (rp (rsB b) k)).take (rC c)).length = rC c := by rw [List.length_take, List.length_drop]; omega
  have rfb : RF ((b.drop (rp (rsB b) k)).take (rC c)) c := by
    have := RF_pre r1 []
    rwa [List.append_nil] at this
  have hLb : Lie (mI M81 (q 20 hp)) (mA x + rp (rsB b) k) (m8 ((b.drop (rp (rsB b) k)).take (rC c))) := by
    have v5' : Lie (mI M81 (q 20 hp)) (mA x) (m8 b) := Lie_same v5 (fun j h1 h2 => lo81 j (by rw [m8_len] at h2; omega))
    rw [m8_take, m8_drop]
    exact Lie_take (Lie_drop v5' _ (by rw [m8_len]; omega)) _
  refine m_rec hC t40 (by omega) kh hLb (Bys_take (Bys_drop v6 _) _) (by rw [bsl, rs1]; omega) (by rw [nh]; omega) (by rw [nh]; decide) t41 t42 ?_ (fun hn => absurd (hrb.2.2.2.1 c (List.mem_of_getElem? hc)).1 (hn c rfb))
  intro c' hc' hok M84 S84 u40 u41 u44 u45 u46 u42 u49 u51 u47 u48 u50 u52
  have ecc := RF_fun hc' rfb
  subst ecc
  have inv84 := invS inv81 S84
  rw [u47]
  have cpy : ∀ y86 : Int64, y86 = (kst Q now y.1 b (k + 1)).2.2 → f_X12_strip_149 Y (q 20 0) (nI (kst Q now y.1 b k).2.1) (nI (r0 + k)) again2 M84 y86 := by
    intro y86 e86
    unfold f_X12_strip_149
    have inv84' := inv84
    rw [eInv] at inv84'
    have hM84 := Ef_SM inv84'.1.1 hM
    obtain ⟨rec84, -, -⟩ := recs inv84'.1
    refine ⟨_, sm_55 hM84, sk_20_56 hC, vrk _ (sn_20_56 hC), fun x90 e90 => ?_⟩
    have g2 := (rec84 _ _ he).2.1
    rw [he2] at g2
    simp only [← eb] at g2
    rw [crk, g2] at e90
    subst e90
    refine LOOP2_inv (fun x91 M92 => ∃ m, m ≤ rC c' ∧ x91 = nI (mA x + rp (rsB b) k + m) ∧ Inv ((kst Q now y.1 b k).1 ++ ((b.drop (rp (rsB b) k)).take (rC c')).take m) M92) (fun x91 _ => mA x + rp (rsB b) k + rC c' - x91.toNatClampNeg) ?_ _ _ ⟨0, by omega, rfl, by rw [List.take_zero, List.append_nil]; exact inv84⟩
    rintro x91 M92 again4 ⟨m, hm, rfl, inv92⟩ hag4
    have inv92' := inv92
    rw [eInv] at inv92'
    obtain ⟨E92, z92, n92, l92, lo92, hd92, bd92⟩ := inv92'
    have hM92 := Ef_SM E92.1 hM
    obtain ⟨rec92, -, -⟩ := recs E92
    have g3 := (rec92 _ _ he).2.2.1
    rw [he2] at g3
    simp only [← eb] at g3
    have ml : (((b.drop (rp (rsB b) k)).take (rC c')).take m).length = m := by rw [List.length_take, bsl]; omega
    unfold L_X12_strip_160 f_X12_strip_207
    refine ⟨_, sm_56 hM92, sk_20_57 hC, vrk _ (sn_20_57 hC), ?_⟩
    rw [crk, g3, rs1, nI_cmp (by omega) (by omega)]
    refine ⟨fun c3 x97 e97 => ?_, fun c3 => ?_⟩
    · have em : m = rC c' := by omega
      subst em
      rw [nI_1] at e97
      refine nx y86 M92 x97 (by rw [e97, kst_n hc w2]) e86 ?_
      rw [kst_n hc w2]
      rw [List.take_of_length_le (by rw [bsl]; exact Nat.le_refl _)] at inv92
      exact inv92
    · have hH92 : mR M92 (q 20 0) 23 = some (q 20 hp) := by rw [E92.2.1]; exact hH.2.1
      rw [List.length_append, ml] at z92
      refine ⟨_, hH92, _, hH92, kh, vh _ (by omega), kh, ?_⟩
      have bk1 := bod (k + 1) (by omega)
      rw [kst_n hc w2] at bk1
      simp only [List.length_append, bsl] at bk1
      rw [z92, nI_clamp (by omega), nI_clamp (by omega)]
      refine ⟨vh _ (by omega), fun M104 e104 M105 e105 x106 e106 => ?_⟩
      have o104 : ∀ cc, cc ≠ hp → mI M104 (q 20 cc) = mI M92 (q 20 cc) := fun cc hcc => by rw [e104]; exact I_ne hC _ _ (by omega)
      have z104 : mI M104 (q 20 0) 25 = nI (ht + 61 + ((kst Q now y.1 b k).1.length + m)) := by rw [o104 0 (by omega)]; exact z92
      rw [z104, nI_1] at e105
      rw [nI_1] at e106
      subst e106
      have o105 : ∀ cc, cc ≠ 0 → mI M105 (q 20 cc) = mI M104 (q 20 cc) := fun cc hcc => by rw [e105]; exact I_ne hC _ _ (by omega)
      have hv : mI M92 (q 20 hp) (mA x + rp (rsB b) k + m) = (m8 ((b.drop (rp (rsB b) k)).take (rC c'))).getD m 0 := by
        have hL2 : Lie (mI M92 (q 20 hp)) (mA x + rp (rsB b) k) (m8 ((b.drop (rp (rsB b) k)).take (rC c'))) := Lie_same hLb (fun j h1 h2 => by rw [lo92 j (by rw [m8_len, bsl] at h2; omega), ← lo81 j (by rw [m8_len, bsl] at h2; omega)])
        exact Lie_get hL2 (by rw [m8_len, bsl]; omega)
      have hm1 : m < ((b.drop (rp (rsB b) k)).take (rC c')).length := by rw [bsl]; omega
      refine hag4 _ _ ⟨m + 1, by omega, rfl, ?_⟩ (by rw [nI_clamp (by omega), nI_clamp (by omega)]; omega)
      rw [eInv]
      have h105 : mI M105 (q 20 hp) = m1 (mI M92 (q 20 hp)) (ht + 61 + ((kst Q now y.1 b k).1.length + m)) (mI M92 (q 20 hp) (mA x + rp (rsB b) k + m)) := by rw [o105 hp (by omega), e104, mI_sI_self]
      refine ⟨EfH_trans E92 (EfH_trans (EfH_sIr hC e104 (fun j => ⟨rfl, by omega⟩)) (EfH_sI hC e105 ⟨rfl, by omega⟩)), ?_, by rw [o105 63 (by decide), o104 63 (by omega)]; exact n92, by rw [o105 64 (by decide), o104 64 (by omega)]; exact l92, fun j hj => by rw [h105, m1_nat _ _ (by omega)]; exact lo92 j hj, ?_, ?_⟩
      · rw [e105, mI_sI_self, m1_at, List.length_append, List.length_take, bsl]; congr 1; omega
      · rw [h105]
        exact Lie_same hd92 (fun j h1 h2 => m1_nat _ _ (by rw [m8_len, List.length_take] at h2; omega))
      · rw [h105, take_s (List.getElem?_eq_getElem hm1), ← List.append_assoc, m8_app]
        refine Lie_app.mpr ⟨Lie_same bd92 (fun j h1 h2 => m1_nat _ _ (by rw [m8_len, List.length_append, ml] at h2; omega)), ?_⟩
        rw [m8_len, List.length_append, ml]
        refine ⟨?_, trivial⟩
        rw [m1_at, hv]
        have hm2 : m < (m8 ((b.drop (rp (rsB b) k)).take (rC c'))).length := by rw [m8_len]; exact hm1
        rw [List.getD_eq_getElem?_getD, List.getElem?_eq_getElem hm2]
        unfold m8
        simp
  have kn := kst_n (Q := Q) (now := now) (p := y.1) hc w2
  refine ⟨fun z => cpy _ ?_, fun z => cpy _ ?_⟩
  · rw [kn]; exact (g_max.1 z).symm
  · rw [kn]; exact (g_max.2 z).symm
