def FrI (f f0 : Nat → Int32) : Prop := ∀ j, j ≠ 42 → j ≠ 43 → j ≠ 46 → j ≠ 49 → j ≠ 51 → f j = f0 j
def FrJ (g g0 : Nat → Int64) : Prop := ∀ j, j ≠ 47 → j ≠ 48 → j ≠ 50 → j ≠ 52 → g j = g0 j
def okT (t : Int64) : Prop := 0 ≤ t ∧ t ≤ 1125899906842624
theorem s_mread {Y : Ly} {v b a : Nat} {M : Mm} {ft : Int64} {Kn : Int32 → Mm → Prop} {bs : List Int32} (hkv : yK Y v = 12) (hR : mR M v 40 = some b) (hkr : yK Y b = 101) (hne : b ≠ v) (hL : Lie (mI M b) a (m8 bs)) (hBy : Bys bs) (hN : a + bs.length ≤ yN Y b) (hb : yN Y b < 2 ^ 31) (h41 : mI M v 41 = nI (a + bs.length)) (h42 : mI M v 42 = nI a)
    (hg : ∀ c, RF bs c → okT (ft + rT c) → ∀ (f : Nat → Int32) (g : Nat → Int64), FrI f (mI M v) → FrJ g (mJ M v) → f 46 = nI a → f 42 = nI (a + rC c) → f 49 = nI (a + rKa c) → f 51 = nI (a + rVa c) → g 47 = ft + rT c → g 48 = rO c → g 50 = rK c → g 52 = rV c → Kn 1 (vq M v f g))
    (hx : (∀ c, RF bs c → ¬ okT (ft + rT c)) → ∀ (f : Nat → Int32) (g : Nat → Int64), FrI f (mI M v) → FrJ g (mJ M v) → f 46 = nI a → Kn 0 (vq M v f g)) : f_X12_readRecord Y v ft M Kn := by
  unfold f_X12_readRecord
  refine ⟨hkv, fun M2 e2 => ⟨bz_1, fun M4 e4 => ?_⟩⟩
  have e4' : M4 = vq M v (m1 (m1 (mI M v) 46 (mI M v 42)) 43 1) (mJ M v) := by rw [e4, e2, sI_sI, mI_sI_self, sI_vq]
  clear e4 e2
  obtain ⟨f0, hf0⟩ : ∃ f0, f0 = m1 (m1 (mI M v) 46 (mI M v 42)) 43 1 := ⟨_, rfl⟩
  have p41 : f0 41 = nI (a + bs.length) := by rw [hf0]; simp [m1, h41]
  have p42 : f0 42 = nI a := by rw [hf0]; simp [m1, h42]
  have p43 : f0 43 = 1 := by rw [hf0]; simp [m1]
  have p46 : f0 46 = nI a := by rw [hf0]; simp [m1, h42]
  have pF : FrI f0 (mI M v) := fun j a1 a2 a3 a4 a5 => by rw [hf0]; simp [m1, a2, a3]
  rw [← hf0] at e4'
  subst e4'
  refine s_mrv hkv hR hkr hne hL hBy hN hb a (Nat.le_refl _) p41 p42 (by rw [p43]; exact bz_1) (fun _ => by omega) ?_
  rw [p43, Nat.sub_self, List.drop_zero]
  intro r6 e1 s1 a1 hs1 W0 f1 k42 k43 kj
  have f1F : FrI f1 (mI M v) := fun j a1 a2 a3 a4 a5 => by rw [kj j a1 a2]; exact pF j a1 a2 a3 a4 a5
  have f146 : f1 46 = nI a := by rw [kj 46 (by decide) (by decide), p46]
  have f141 : f1 41 = nI (a + bs.length) := by rw [kj 41 (by decide) (by decide), p41]
  simp only [vq_v, k42, k43, f141]
  have fail : (∀ c, RF bs c → ¬ okT (ft + rT c)) → f_X12_readRecord_51 Y v ft Kn (vq M v f1 (mJ M v)) r6 := by
    intro hn
    unfold f_X12_readRecord_51 f_X12_readRecord_52
    refine ⟨bz_0, fun M9 e9 => ?_⟩
    rw [vq_v, vq_sI] at e9
    subst e9
    simp only [vq_v]
    exact ⟨fun c => absurd (show m1 f1 43 0 43 = 0 from by simp [m1]) c, fun c => ⟨bz_0, hx hn _ _ (fun j a1 a2 a3 a4 a5 => by simp [m1, a2]; exact f1F j a1 a2 a3 a4 a5) (fun j _ _ _ _ => rfl) (by simp [m1, f146])⟩⟩
  have bad0 : (s1 = 0 ∨ r6.toInt < 0 ∨ ((a + bs.length - e1 : Nat) : Int) < r6.toInt) → ∀ c, RF bs c → ¬ okT (ft + rT c) := by
    intro hb0 c hc _
    obtain ⟨z, r0, b1, t, b2, o, b3, k, b4, v', b5, d1, d2, d3, -⟩ := RF_RD hc
    rcases W0 with ⟨q1, q2, q3, z', q4, q5⟩ | ⟨q1, q2 | q2⟩
    · rw [d1] at q4
      cases q4
      rw [List.length_drop] at d3
      rw [q1] at hb0
      rcases hb0 with q | q | q
      · exact absurd q (by decide)
      · rw [q5] at q; omega
      · rw [q5] at q; omega
    · exact absurd q2 (by decide)
    · rw [d1] at q2
      cases q2
  refine ⟨fun c => fail (bad0 (Or.inl c)), fun c => ⟨fun d => fail (bad0 (Or.inr (Or.inl (Int64.lt_iff_toInt_lt.mp d)))), fun d => ?_⟩⟩
  have d' : 0 ≤ r6.toInt := by rw [Int64.lt_iff_toInt_lt] at d; exact Int.not_lt.mp d
  rcases W0 with ⟨q1, -, a2, z, hz, hr6⟩ | ⟨q1, -⟩
  rotate_left
  · exact absurd q1 c
  rw [pk_sub a2, nI_l (by omega), Int64.lt_iff_toInt_lt, pk_lT (by omega)]
  refine ⟨fun g => fail (bad0 (Or.inr (Or.inr g))), fun g => ?_⟩
  unfold f_X12_readRecord_52
  refine ⟨bz_1, fun M9 e9 => ?_⟩
  rw [vq_v, vq_sI] at e9
  subst e9
  simp only [vq_v]
  refine ⟨fun _ => ?_, fun c => absurd c (by simp [m1])⟩
  intro x11 e11
  rw [show m1 f1 43 1 42 = nI e1 from by simp [m1, k42], i64_nI d' (by omega), nI_add] at e11
  have hnz : r6.toInt.toNat = nn z := by rw [hr6]; rfl
  rw [hnz] at e11
  subst e11
  have mk : ∀ (f' : Nat → Int32) (g' : Nat → Int64), FrI f' (mI M v) → FrJ g' (mJ M v) → f' 46 = nI a → f' 41 = nI (a + bs.length) → True := fun _ _ _ _ _ _ => trivial
  refine s_mrz hkv hR hkr hne hL hBy hN hb e1 (by omega) (by simp [m1, f141]) (by simp [m1, k42]) (by simp [m1]; exact bz_1) (fun _ => by omega) ?_
  rw [show m1 f1 43 1 43 = 1 from by simp [m1]]
  intro s2 hs2 W1 f2 k42 k43 kj
  have f2F : FrI f2 (mI M v) := fun j a1 a2 a3 a4 a5 => by rw [kj j a1 a2]; simp [m1, a2]; exact f1F j a1 a2 a3 a4 a5
  have f246 : f2 46 = nI a := by rw [kj 46 (by decide) (by decide)]; simp [m1, f146]
  have f241 : f2 41 = nI (a + bs.length) := by rw [kj 41 (by decide) (by decide)]; simp [m1, f141]
  refine s_mrv hkv hR hkr hne hL hBy hN hb (e1 + 1) (by omega) f241 k42 (by rw [k43]; exact hs2) ?_ ?_
  · rw [k43]; intro y
    rcases W1 with ⟨-, -, w, -⟩ | ⟨w, -⟩
    · exact w
    · rw [y] at w; exact absurd w (by decide)
  rw [k43]
  intro r14 e3 s3 b1 hs3 W2 f3 k42 k43 kj M15 e15
  have f3F : FrI f3 (mI M v) := fun j a1 a2 a3 a4 a5 => by rw [kj j a1 a2]; exact f2F j a1 a2 a3 a4 a5
  have f346 : f3 46 = nI a := by rw [kj 46 (by decide) (by decide), f246]
  have f341 : f3 41 = nI (a + bs.length) := by rw [kj 41 (by decide) (by decide), f241]
  rw [vq_J, vq_sJ] at e15
  subst e15
  obtain ⟨g1, hg1⟩ : ∃ g1, g1 = m1 (mJ M v) 47 (ft + r14) := ⟨_, rfl⟩
  have g1F : FrJ g1 (mJ M v) := fun j a1 a2 a3 a4 => by rw [hg1]; simp [m1, a1]
  have g147 : g1 47 = ft + r14 := by rw [hg1]; simp [m1]
  rw [← hg1]
  simp only [vq_v, vq_J, k43, g147]
  -- the tail behind the time
  have tail : ∀ y16 : Int32, bz y16 → ((y16 = 1 ∧ s3 = 1 ∧ okT (ft + r14)) ∨ (y16 = 0 ∧ (s3 = 0 ∨ ¬ okT (ft + r14)))) → f_X12_readRecord_120 Y v Kn (nI (e1 + nn z)) (vq M v f3 g1) y16 := by
    intro y16 hy hW
    unfold f_X12_readRecord_120
    refine ⟨hy, fun M18 e18 => ?_⟩
    rw [vq_v, vq_sI] at e18
    subst e18
    refine s_mrv hkv hR hkr hne hL hBy hN hb e3 (by omega) (by simp [m1, f341]) (by simp [m1, k42]) (by simp [m1]; exact hy) ?_ ?_
    · intro y
      rw [show m1 f3 43 y16 43 = y16 from by simp [m1]] at y
      rcases hW with ⟨-, w, -⟩ | ⟨w, -⟩
      · rcases W2 with ⟨-, -, u, -⟩ | ⟨u, -⟩
        · exact u
        · rw [w] at u; exact absurd u (by decide)
      · rw [y] at w; exact absurd w (by decide)
    rw [show m1 f3 43 y16 43 = y16 from by simp [m1]]
    intro r20 e4 s4 b2 hs4 W3 f4 k42 k43 kj M21 e21
    have f4F : FrI f4 (mI M v) := fun j a1 a2 a3 a4 a5 => by rw [kj j a1 a2]; simp [m1, a2]; exact f3F j a1 a2 a3 a4 a5
    have f446 : f4 46 = nI a := by rw [kj 46 (by decide) (by decide)]; simp [m1, f346]
    have f441 : f4 41 = nI (a + bs.length) := by rw [kj 41 (by decide) (by decide)]; simp [m1, f341]
    rw [vq_J, vq_sJ] at e21
    subst e21
    obtain ⟨g2, hg2⟩ : ∃ g2, g2 = m1 g1 48 r20 := ⟨_, rfl⟩
    have g2F : FrJ g2 (mJ M v) := fun j a1 a2 a3 a4 => by rw [hg2]; simp [m1, a2]; exact g1F j a1 a2 a3 a4
    have g247 : g2 47 = ft + r14 := by rw [hg2]; simp [m1, g147]
    have g248 : g2 48 = r20 := by rw [hg2]; simp [m1]
    rw [← hg2]
    refine s_mrb hkv hR hkr hne hL hBy hN hb e4 (by omega) f441 k42 (by rw [k43]; exact hs4) ?_ ?_
    · rw [k43]; intro y
      rcases W3 with ⟨-, -, u, -⟩ | ⟨u, -⟩
      · exact u
      · rw [y] at u; exact absurd u (by decide)
    rw [k43]
    intro r23 e5 s5 b3 hs5 W4 f5 k42 k43 kj M24 e24
    have f5F : FrI f5 (mI M v) := fun j a1 a2 a3 a4 a5 => by rw [kj j a1 a2]; exact f4F j a1 a2 a3 a4 a5
    have f546 : f5 46 = nI a := by rw [kj 46 (by decide) (by decide), f446]
    have f541 : f5 41 = nI (a + bs.length) := by rw [kj 41 (by decide) (by decide), f441]
    rw [vq_J, vq_sJ] at e24
    subst e24
    obtain ⟨g3, hg3⟩ : ∃ g3, g3 = m1 g2 50 r23 := ⟨_, rfl⟩
    have g3F : FrJ g3 (mJ M v) := fun j a1 a2 a3 a4 => by rw [hg3]; simp [m1, a3]; exact g2F j a1 a2 a3 a4
    have g347 : g3 47 = ft + r14 := by rw [hg3]; simp [m1, g247]
    have g348 : g3 48 = r20 := by rw [hg3]; simp [m1, g248]
    have g350 : g3 50 = r23 := by rw [hg3]; simp [m1]
    rw [← hg3]
    simp only [vq_v, vq_J, g350, k43]
    have t169 : ∀ y25 : Int32, (s5 = 1 → y25 = nI r23.toInt.toNat) → f_X12_readRecord_169 Y v Kn (nI (e1 + nn z)) (vq M v f5 g3) y25 := by
      intro y25 hy25
      unfold f_X12_readRecord_169
      intro M26 e26
      rw [vq_v, vq_sI, k42] at e26
      subst e26
      obtain ⟨f6, hf6⟩ : ∃ f6, f6 = m1 f5 49 (nI e5 - y25) := ⟨_, rfl⟩
      have f6F : FrI f6 (mI M v) := fun j a1 a2 a3 a4 a5 => by rw [hf6]; simp [m1, a4]; exact f5F j a1 a2 a3 a4 a5
      have f646 : f6 46 = nI a := by rw [hf6]; simp [m1, f546]
      have f641 : f6 41 = nI (a + bs.length) := by rw [hf6]; simp [m1, f541]
      have f649 : f6 49 = nI e5 - y25 := by rw [hf6]; simp [m1]
      have f642 : f6 42 = nI e5 := by rw [hf6]; simp [m1, k42]
      have f643 : f6 43 = s5 := by rw [hf6]; simp [m1, k43]
      rw [← hf6]
      refine s_mrb hkv hR hkr hne hL hBy hN hb e5 (by omega) f641 f642 (by rw [f643]; exact hs5) ?_ ?_
      · rw [f643]; intro y
        rcases W4 with ⟨-, -, u, -⟩ | ⟨u, -⟩
        · exact u
        · rw [y] at u; exact absurd u (by decide)
      rw [f643]
      intro r28 e6 s6 b4 hs6 W5 f7 k42 k43 kj M29 e29
      have f7F : FrI f7 (mI M v) := fun j a1 a2 a3 a4 a5 => by rw [kj j a1 a2]; exact f6F j a1 a2 a3 a4 a5
      have f746 : f7 46 = nI a := by rw [kj 46 (by decide) (by decide), f646]
      have f741 : f7 41 = nI (a + bs.length) := by rw [kj 41 (by decide) (by decide), f641]
      have f749 : f7 49 = nI e5 - y25 := by rw [kj 49 (by decide) (by decide), f649]
      rw [vq_J, vq_sJ] at e29
      subst e29
      obtain ⟨g4, hg4⟩ : ∃ g4, g4 = m1 g3 52 r28 := ⟨_, rfl⟩
      have g4F : FrJ g4 (mJ M v) := fun j a1 a2 a3 a4 => by rw [hg4]; simp [m1, a4]; exact g3F j a1 a2 a3 a4
      have g447 : g4 47 = ft + r14 := by rw [hg4]; simp [m1, g347]
      have g448 : g4 48 = r20 := by rw [hg4]; simp [m1, g348]
      have g450 : g4 50 = r23 := by rw [hg4]; simp [m1, g350]
      have g452 : g4 52 = r28 := by rw [hg4]; simp [m1]
      rw [← hg4]
      simp only [vq_v, vq_J, g452, k43]
      have t211 : ∀ y30 : Int32, (s6 = 1 → y30 = nI r28.toInt.toNat) → f_X12_readRecord_211 Y v Kn (nI (e1 + nn z)) (vq M v f7 g4) y30 := by
        intro y30 hy30
        unfold f_X12_readRecord_211
        intro M31 e31
        rw [vq_v, vq_sI, k42] at e31
        subst e31
        obtain ⟨f8, hf8⟩ : ∃ f8, f8 = m1 f7 51 (nI e6 - y30) := ⟨_, rfl⟩
        have f8F : FrI f8 (mI M v) := fun j a1 a2 a3 a4 a5 => by rw [hf8]; simp [m1, a5]; exact f7F j a1 a2 a3 a4 a5
        have f846 : f8 46 = nI a := by rw [hf8]; simp [m1, f746]
        have f841 : f8 41 = nI (a + bs.length) := by rw [hf8]; simp [m1, f741]
        have f849 : f8 49 = nI e5 - y25 := by rw [hf8]; simp [m1, f749]
        have f851 : f8 51 = nI e6 - y30 := by rw [hf8]; simp [m1]
        have f842 : f8 42 = nI e6 := by rw [hf8]; simp [m1, k42]
        have f843 : f8 43 = s6 := by rw [hf8]; simp [m1, k43]
        rw [← hf8]
        refine s_mrz hkv hR hkr hne hL hBy hN hb e6 (by omega) f841 f842 (by rw [f843]; exact hs6) ?_ ?_
        · rw [f843]; intro y
          rcases W5 with ⟨-, -, u, -⟩ | ⟨u, -⟩
          · exact u
          · rw [y] at u; exact absurd u (by decide)
        rw [f843]
        intro s7 hs7 W6 f9 k42 k43 kj
        have f9F : FrI f9 (mI M v) := fun j a1 a2 a3 a4 a5 => by rw [kj j a1 a2]; exact f8F j a1 a2 a3 a4 a5
        have f946 : f9 46 = nI a := by rw [kj 46 (by decide) (by decide), f846]
        have f949 : f9 49 = nI e5 - y25 := by rw [kj 49 (by decide) (by decide), f849]
        have f951 : f9 51 = nI e6 - y30 := by rw [kj 51 (by decide) (by decide), f851]
        simp only [vq_v, k42, k43]
        unfold f_X12_readRecord_239 f_X12_readRecord_240
        have noRF : (s7 = 0 ∨ e6 + 1 ≠ e1 + nn z) → ∀ c, RF bs c → ¬ okT (ft + rT c) := by
          intro hbd c hc hok
          obtain ⟨z', r0, c1, t, c2, o, c3, k, c4, v', c5, c6, d1, d2, d3, d4, d5, d6, d7, d8, d9, d10, d11, dl, d12⟩ := RF_RM hc
          rw [hz] at d1
          cases d1
          rw [d12] at hok
          have hok' : okT (ft + uzz t) := hok
          rcases W1 with ⟨w1, -, w2, -⟩ | ⟨-, w | w⟩
          rotate_left
          · exact absurd w (by decide)
          · exact w _ d4
          have B1 : bs.drop (e1 + 1 - a) = c1 := by
            rw [show e1 + 1 - a = (e1 - a) + 1 from by omega, ← List.drop_drop, d4]; rfl
          rw [B1, d5] at W2
          rcases W2 with ⟨w3, -, w4, q, w5, w6⟩ | ⟨-, w | w⟩
          rotate_left
          · rw [w1] at w; exact absurd w (by decide)
          · cases w
          have B2 : bs.drop (e3 - a) = c2 ∧ r14 = uzz t := by cases w5; exact ⟨rfl, w6⟩
          rcases hW with ⟨w7, -, -⟩ | ⟨-, w | w⟩
          rotate_left
          · rw [w3] at w; exact absurd w (by decide)
          · rw [B2.2] at w; exact w hok'
          rw [B2.1, d6] at W3
          rcases W3 with ⟨w8, -, -, q, w9, -⟩ | ⟨-, w | w⟩
          rotate_left
          · rw [w7] at w; exact absurd w (by decide)
          · cases w
          have B3 : bs.drop (e4 - a) = c3 := by cases w9; rfl
          rw [B3, d7] at W4
          rcases W4 with ⟨u1, -, -, q, rs, u2, -, -, u3, -⟩ | ⟨-, w | w⟩
          rotate_left
          · rw [w8] at w; exact absurd w (by decide)
          · exact d8 (w _ _ rfl)
          cases u2
          rw [u3, d9] at W5
          rcases W5 with ⟨u4, -, u6, q, rs, u5, -, -, u7, -⟩ | ⟨-, w | w⟩
          rotate_left
          · rw [u1] at w; exact absurd w (by decide)
          · exact d10 (w _ _ rfl)
          cases u5
          rw [d11] at u7
          have lu := congrArg List.length u7
          rw [List.length_drop, List.length_cons] at lu
          rw [List.length_drop] at dl
          rcases W6 with ⟨x1, -, x2, -⟩ | ⟨-, w | w⟩
          · rcases hbd with y | y
            · rw [x1] at y; exact absurd y (by decide)
            · exact y (by omega)
          · rw [u4] at w; exact absurd w (by decide)
          · exact w _ u7
        refine ⟨fun c7 => ⟨bz_0, hx (noRF (Or.inl c7)) _ _ f9F g4F f946⟩, fun c7 => ?_⟩
        rcases W6 with ⟨w1, w2, w3, ps, w4⟩ | ⟨w, -⟩
        rotate_left
        · exact absurd w c7
        refine ⟨fun c8 => ⟨bz_0, hx (noRF (Or.inr (fun h => c8 (by rw [h])))) _ _ f9F g4F f946⟩, fun c8 => ⟨bz_1, ?_⟩⟩
        have bA : e6 + 1 < 2 ^ 31 := Nat.lt_of_le_of_lt w3 (Nat.lt_of_le_of_lt hN hb)
        have bB : e1 + nn z < 2 ^ 31 := by clear noRF W5 W4 W3 W2 hW c8; omega
        rw [nI_eq bA bB] at c8
        rcases W5 with ⟨-, q2, q7, zv, rv, q3, q4, q5, q6, q8⟩ | ⟨w, -⟩
        rotate_left
        · rw [w2] at w; exact absurd w (by decide)
        rcases W4 with ⟨-, p2, p7, zk, rk, p3, p4, p5, p6, p8⟩ | ⟨w, -⟩
        rotate_left
        · rw [q2] at w; exact absurd w (by decide)
        rcases W3 with ⟨-, o2, o5, zo, o3, o4⟩ | ⟨w, -⟩
        rotate_left
        · rw [p2] at w; exact absurd w (by decide)
        rcases hW with ⟨-, m2, m3⟩ | ⟨w, -⟩
        rotate_left
        · rw [o2] at w; exact absurd w (by decide)
        rcases W2 with ⟨-, t2, t5, zt, t3, t4⟩ | ⟨w, -⟩
        rotate_left
        · rw [m2] at w; exact absurd w (by decide)
        rcases W1 with ⟨-, -, n4, c1, n3⟩ | ⟨w, -⟩
        rotate_left
        · rw [t2] at w; exact absurd w (by decide)
        have B1 : bs.drop (e1 + 1 - a) = c1 := by
          rw [show e1 + 1 - a = (e1 - a) + 1 from by omega, ← List.drop_drop, n3]; rfl
        have lps := congrArg List.length w4
        rw [List.length_drop, List.length_cons] at lps
        have l5 := congrArg List.length q6
        have l4 := congrArg List.length p6
        simp only [List.length_drop] at l5 l4
        have hrv := vr_len q3
        have hrk := vr_len p3
        rw [List.length_drop] at hrv hrk
        have hkb : nn zk ≤ rk.length := by unfold badT at p4; unfold nn; omega
        have hvb : nn zv ≤ rv.length := by unfold badT at q4; unfold nn; omega
        have hrf : RF bs (uzz zt, uzz zo, uzz zk, bs.length - rk.length, uzz zv, bs.length - rv.length, bs.length - ps.length) :=
          RM_RF ⟨z, _, c1, zt, _, zo, _, zk, rk, zv, rv, ps, hz, by rw [← hr6]; exact d', by rw [← hr6, List.length_drop]; omega, n3, by rw [← B1]; exact t3, o3, p3, p4, by rw [← p6]; exact q3, q4, by rw [← q6]; exact w4, by rw [List.length_drop]; omega, rfl⟩
        have hk25 := hy25 q2
        have hk30 := hy30 w2
        refine hg _ hrf (by show okT (ft + uzz zt); rw [← t4]; exact m3) _ _ f9F g4F f946 ?_ ?_ ?_ ?_ ?_ ?_ ?_
        · rw [k42]
          show nI (e6 + 1) = nI (a + (bs.length - ps.length))
          congr 1; omega
        · rw [f949, hk25, show r23.toInt.toNat = nn zk from by rw [p5]; rfl, pk_sub p8]
          show nI (e5 - nn zk) = nI (a + (bs.length - rk.length))
          congr 1; omega
        · rw [f951, hk30, show r28.toInt.toNat = nn zv from by rw [q5]; rfl, pk_sub q8]
          show nI (e6 - nn zv) = nI (a + (bs.length - rv.length))
          congr 1; omega
        · rw [g447, t4]; rfl
        · rw [g448, o4]; rfl
        · rw [g450, p5]; rfl
        · rw [g452, q5]; rfl
      unfold f_X12_readRecord_210
      refine ⟨fun c => t211 0 ?_, fun c => ⟨fun c2 => t211 0 ?_, fun c2 => t211 _ ?_⟩⟩
      · intro _
        rw [Int64.le_iff_toInt_le] at c
        have : r28.toInt ≤ 0 := c
        rw [show r28.toInt.toNat = 0 from by omega]; rfl
      · intro y; rw [y] at c2; exact absurd c2 (by decide)
      · intro y
        rw [Int64.le_iff_toInt_le] at c
        have c' : ¬ r28.toInt ≤ 0 := c
        rcases W5 with ⟨-, -, u6, q, rs, u5, u7, u8, -, -⟩ | ⟨u, -⟩
        · have hl := vr_len u5
          rw [List.length_drop] at hl
          unfold badT at u7
          rw [← u8] at u7
          rw [i64_nI (by omega) (by omega)]
        · rw [y] at u; exact absurd u (by decide)
    unfold f_X12_readRecord_168
    refine ⟨fun c => t169 0 ?_, fun c => ⟨fun c2 => t169 0 ?_, fun c2 => t169 _ ?_⟩⟩
    · intro _
      rw [Int64.le_iff_toInt_le] at c
      have : r23.toInt ≤ 0 := c
      rw [show r23.toInt.toNat = 0 from by omega]; rfl
    · intro y; rw [y] at c2; exact absurd c2 (by decide)
    · intro y
      rw [Int64.le_iff_toInt_le] at c
      have c' : ¬ r23.toInt ≤ 0 := c
      rcases W4 with ⟨-, -, u6, q, rs, u5, u7, u8, -, -⟩ | ⟨u, -⟩
      · have hl := vr_len u5
        rw [List.length_drop] at hl
        unfold badT at u7
        rw [← u8] at u7
        rw [i64_nI (by omega) (by omega)]
      · rw [y] at u; exact absurd u (by decide)
  unfold f_X12_readRecord_119
  refine ⟨fun c => tail 0 bz_0 (Or.inr ⟨rfl, Or.inl c⟩), fun c => ⟨fun c2 => tail 0 bz_0 (Or.inr ⟨rfl, Or.inr (fun ok => absurd c2 (Int64.not_lt.mpr ok.1))⟩), fun c2 => ⟨fun c3 => tail 0 bz_0 (Or.inr ⟨rfl, Or.inr (fun ok => absurd c3 (Int64.not_lt.mpr ok.2))⟩), fun c3 => tail 1 bz_1 (Or.inl ⟨rfl, bz_ne0 hs3 c, Int64.not_lt.mp c2, Int64.not_lt.mp c3⟩)⟩⟩⟩
