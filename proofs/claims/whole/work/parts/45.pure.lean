theorem sI_vq (M : Mm) (v : Nat) (f : Nat → Int32) : sI M v f = vq M v f (mJ M v) := by
  obtain ⟨I, J, R⟩ := M
  show (m1 I v f, J, R) = (m1 I v f, m1 J v (J v), R)
  rw [m1_same]
theorem bz_ne0 {s : Int32} (h : bz s) (c : ¬ s = 0) : s = 1 := h.resolve_left c
theorem s_read {Y : Ly} {v row a : Nat} {M : Mm} {Kn : Int32 → Mm → Prop} {bs : List Int32} (hkv : yK Y v = 10) (hkr : yK Y row = 100) (hne : row ≠ v) (hL : Lie (mI M row) a bs) (hN : a + bs.length ≤ yN Y row) (hb : yN Y row < 2 ^ 31)
    (hg : ∀ c, RF bs c → ∀ (f : Nat → Int32) (g : Nat → Int64), f 2 = nI (a + rKa c) → f 3 = (rK c).toInt32 → f 4 = nI (a + rVa c) → f 5 = (rV c).toInt32 → f 6 = nI (a + rC c) → g 0 = rT c → g 1 = rO c → Kn 1 (vq M v f g))
    (hx : (∀ c, ¬ RF bs c) → ∀ (f : Nat → Int32) (g : Nat → Int64), Kn 0 (vq M v f g)) : f_X10_read Y v row (nI a) (nI (a + bs.length)) M Kn := by
  unfold f_X10_read
  refine ⟨hkv, bz_1, fun M3 e3 M4 e4 => ?_⟩
  have e4' : M4 = vq M v (m1 (m1 (mI M v) 7 1) 6 (nI a)) (mJ M v) := by rw [e4, e3, sI_sI, mI_sI_self, sI_vq]
  clear e4 e3
  subst e4'
  refine s_rvQ hkv hkr hne hL hN hb a (Nat.le_refl _) (by omega) (by simp [m1]) (by simp [m1]; exact bz_1) ?_
  intro r6 e1 s1 a1 a2 a3 W0 f1 k6 k7a kj
  simp only [vq_v, k6, k7a]
  have fail : (∀ c, ¬ RF bs c) → f_X10_read_45 Y Kn (vq M v f1 (mJ M v)) := fun hn => ⟨bz_0, hx hn _ _⟩
  have bad0 : (s1 = 0 ∨ r6.toInt < 0 ∨ ((a + bs.length - e1 : Nat) : Int) < r6.toInt) → ∀ c, ¬ RF bs c := by
    intro hb0 c hc
    obtain ⟨z, r0, b1, t, b2, o, b3, k, b4, v', b5, d1, d2, d3, -⟩ := RF_RD hc
    rcases W0 with ⟨q1, q2, z', q3, q4⟩ | ⟨q1, q2 | q2⟩
    · rw [Nat.sub_self, List.drop_zero, d1] at q3
      cases q3
      rw [List.length_drop] at d3
      rw [q1] at hb0
      rcases hb0 with q | q | q
      · exact absurd q (by decide)
      · rw [q4] at q; omega
      · rw [q4] at q; omega
    · simp [m1] at q2
    · rw [Nat.sub_self, List.drop_zero, d1] at q2
      cases q2
  refine ⟨fun c => fail (bad0 (Or.inl c)), fun c => ⟨fun d => fail (bad0 (Or.inr (Or.inl ?_))), fun d => ⟨fun g => ?_, fun g => fail (bad0 (Or.inr (Or.inr ?_)))⟩⟩⟩
  · exact Int64.lt_iff_toInt_lt.mp d
  rotate_left
  · rw [pk_sub a2, nI_l (by omega), Int64.le_iff_toInt_le, pk_lT (by omega)] at g; omega
  have d' : 0 ≤ r6.toInt := by rw [Int64.lt_iff_toInt_lt] at d; exact Int.not_lt.mp d
  rw [pk_sub a2, nI_l (by omega), Int64.le_iff_toInt_le, pk_lT (by omega)] at g
  intro x10 e10
  rw [i64_nI d' (by omega), nI_add] at e10
  have hs1 : s1 = 1 := bz_ne0 a3 c
  obtain ⟨z, hz, hr6⟩ : ∃ z, vr 0 0 bs = some (z, bs.drop (e1 - a)) ∧ r6 = uzz z := by
    rcases W0 with ⟨q1, q2, z', q3, q4⟩ | ⟨q1, q2⟩
    · rw [Nat.sub_self, List.drop_zero] at q3
      exact ⟨z', q3, q4⟩
    · exact absurd q1 c
  have hnz : r6.toInt.toNat = nn z := by rw [hr6]; rfl
  rw [hnz] at e10
  obtain ⟨B, hB⟩ : ∃ B, B = (bs.drop (e1 - a)).take (nn z) := ⟨_, rfl⟩
  have hBl : B.length = nn z := by rw [hB, List.length_take, List.length_drop]; omega
  have hBL : Lie (mI M row) e1 B := by
    rw [hB]
    have := Lie_take (Lie_drop hL (e1 - a) (by omega)) (nn z)
    rwa [show a + (e1 - a) = e1 from by omega] at this
  have hBN : e1 + B.length ≤ yN Y row := by omega
  rw [← hBl] at e10
  subst e10
  refine s_rzQ hkv hkr hne hBL hBN hb e1 (Nat.le_refl _) (by omega) k6 ?_
  intro e2 s2 b1 b2 W1 f2 k6 k7 kj
  rw [k7a] at W1
  have hs2 : bz s2 := by
    rcases W1 with ⟨w, -⟩ | ⟨w, -⟩
    · rw [w]; exact a3
    · rw [w]; exact bz_0
  refine s_rvQ hkv hkr hne hBL hBN hb e2 (by omega) (by omega) k6 (by rw [k7]; exact hs2) ?_
  intro r13 e3 s3 b1 b2 hs3 W2
  rw [k7] at W2
  intro f3 k6 k7 kj M14 e14
  rw [vq_J, vq_sJ] at e14
  subst e14
  refine s_rvQ hkv hkr hne hBL hBN hb e3 (by omega) (by omega) k6 (by rw [k7]; exact hs3) ?_
  intro r16 e4 s4 b1 b2 hs4 W3
  rw [k7] at W3
  intro f4 k6 k7 kj M17 e17
  rw [vq_J, vq_sJ] at e17
  subst e17
  refine s_rtQ hkv hkr hne hBL hBN hb e4 (by omega) (by omega) k6 (by rw [k7]; exact hs4) ?_
  intro r19 e5 s5 b1 b2 hs5 W4
  rw [k7] at W4
  intro f5 k6 k7 kj M20 e20 M21 e21
  rw [vq_v, vq_sI] at e20
  subst e20
  rw [vq_v, vq_sI, show m1 f5 3 r19 6 = nI e5 from by simp [m1, k6], show m1 f5 3 r19 3 = r19 from by simp [m1]] at e21
  obtain ⟨f6, hf6⟩ : ∃ f6, f6 = m1 (m1 f5 3 r19) 2 (nI e5 - (if r19 < 0 then 0 else r19)) := ⟨_, rfl⟩
  rw [← hf6] at e21
  subst e21
  refine s_rtQ hkv hkr hne hBL hBN hb e5 (by omega) (by omega) (by rw [hf6]; simp [m1, k6]) (by rw [hf6]; simp [m1, k7]; exact hs5) ?_
  intro r23 e6 s6 b1 b2 hs6 W5
  rw [show f6 7 = s5 from by rw [hf6]; simp [m1, k7]] at W5
  intro f7 j6 j7 jj M24 e24 M25 e25
  rw [vq_v, vq_sI] at e24
  subst e24
  rw [vq_v, vq_sI, show m1 f7 5 r23 6 = nI e6 from by simp [m1, j6], show m1 f7 5 r23 5 = r23 from by simp [m1]] at e25
  obtain ⟨f8, hf8⟩ : ∃ f8, f8 = m1 (m1 f7 5 r23) 4 (nI e6 - (if r23 < 0 then 0 else r23)) := ⟨_, rfl⟩
  rw [← hf8] at e25
  subst e25
  refine s_rzQ hkv hkr hne hBL hBN hb e6 (by omega) (by omega) (by rw [hf8]; simp [m1, j6]) ?_
  intro e7 s7 b1 b2 W6
  rw [show f8 7 = s6 from by rw [hf8]; simp [m1, j7]] at W6
  intro f9 i6 i7 ij
  simp only [vq_v, i6, i7]
  have hl0 : (bs.drop (e1 - a)).length = a + bs.length - e1 := by rw [List.length_drop]; omega
  have noRF : (s7 = 0 ∨ e7 ≠ e1 + B.length) → ∀ c, ¬ RF bs c := by
    intro hbd c hc
    obtain ⟨z', r0, b1', t, b2', o, b3, k, b4, v', b5, d1, d2, d3, d4, d5, d6, d7, d8, d9, d10, d11, -⟩ := RF_RD hc
    rw [hz] at d1
    cases d1
    rw [← hB] at d4
    rcases W1 with ⟨w1, w2, -⟩ | ⟨-, -, w⟩
    rotate_left
    · exact w b1' (by rw [Nat.sub_self]; exact d4)
    have B1 : B.drop (e2 - e1) = b1' := by rw [w2, d4, show e1 + 1 - e1 = 1 from by omega]; rfl
    rw [B1, d5] at W2
    rcases W2 with ⟨w3, -, q, w4, -⟩ | ⟨-, w | w⟩
    rotate_left
    · rw [w1, hs1] at w; exact absurd w (by decide)
    · cases w
    have B2 : B.drop (e3 - e1) = b2' := by cases w4; rfl
    rw [B2, d6] at W3
    rcases W3 with ⟨w5, -, q, w6, -⟩ | ⟨-, w | w⟩
    rotate_left
    · rw [w3] at w; exact absurd w (by decide)
    · cases w
    have B3 : B.drop (e4 - e1) = b3 := by cases w6; rfl
    rw [B3, d7] at W4
    rcases W4 with ⟨w7, -, q, rs, w8, -, -, w9⟩ | ⟨-, w | w⟩
    rotate_left
    · rw [w5] at w; exact absurd w (by decide)
    · exact d8 (w _ _ rfl)
    cases w8
    rw [w9, d9] at W5
    rcases W5 with ⟨u7, -, q, rs, u8, -, -, u9⟩ | ⟨-, w | w⟩
    rotate_left
    · rw [w7] at w; exact absurd w (by decide)
    · exact d10 (w _ _ rfl)
    cases u8
    rw [d11] at u9
    have lu := congrArg List.length u9
    rw [List.length_drop, List.length_cons, List.length_nil] at lu
    rcases W6 with ⟨x1, x2, -⟩ | ⟨-, -, x3⟩
    · rcases hbd with y | y
      · rw [x1, u7] at y; exact absurd y (by decide)
      · exact y (by omega)
    · exact x3 _ u9
  refine ⟨fun c7 => ⟨bz_0, hx (noRF (Or.inl c7)) _ _⟩, fun c7 => ⟨fun c8 => ⟨bz_0, hx (noRF (Or.inr (fun h => c8 (by rw [h])))) _ _⟩, fun c8 => ⟨bz_1, ?_⟩⟩⟩
  rw [nI_eq (by omega) (by omega)] at c8
  rcases W6 with ⟨w1, w2, ps, w3⟩ | ⟨w, -⟩
  rotate_left
  · exact absurd w c7
  rw [w1] at c7
  rcases W5 with ⟨q1, q2, zv, rv, q3, q4, q5, q6⟩ | ⟨w, -⟩
  rotate_left
  · exact absurd w c7
  rcases W4 with ⟨p1, p2, zk, rk, p3, p4, p5, p6⟩ | ⟨w, -⟩
  rotate_left
  · rw [q2] at w; exact absurd w (by decide)
  rcases W3 with ⟨o1, o2, zo, o3, o4⟩ | ⟨w, -⟩
  rotate_left
  · rw [p2] at w; exact absurd w (by decide)
  rcases W2 with ⟨t1, t2, zt, t3, t4⟩ | ⟨w, -⟩
  rotate_left
  · rw [o2] at w; exact absurd w (by decide)
  rcases W1 with ⟨n1, n2, b1', n3⟩ | ⟨w, -⟩
  rotate_left
  · rw [t2] at w; exact absurd w (by decide)
  rw [Nat.sub_self, List.drop_zero] at n3
  have B1 : B.drop (e2 - e1) = b1' := by rw [n2, n3, show e1 + 1 - e1 = 1 from by omega]; rfl
  have hps : ps = [] := by
    have := congrArg List.length w3
    rw [List.length_drop, List.length_cons] at this
    exact List.eq_nil_of_length_eq_zero (by omega)
  rw [hps] at w3
  have l5 := congrArg List.length q6
  have l4 := congrArg List.length p6
  simp only [List.length_drop] at l5 l4
  have hkb : nn zk ≤ rk.length := by unfold badT at p4; unfold nn; omega
  have hvb : nn zv ≤ rv.length := by unfold badT at q4; unfold nn; omega
  have rkl : (rk.drop (nn zk)).length = rk.length - nn zk := List.length_drop ..
  have l6 := congrArg List.length w3
  rw [List.length_drop, List.length_cons, List.length_nil] at l6
  have hrf : RF bs (uzz zt, uzz zo, uzz zk, bs.length - (bs.drop (e1 - a)).length + nn z - rk.length, uzz zv, bs.length - (bs.drop (e1 - a)).length + nn z - rv.length, bs.length - (bs.drop (e1 - a)).length + nn z) :=
    RD_RF ⟨z, _, b1', zt, _, zo, _, zk, rk, zv, rv, hz, by rw [← hr6]; exact d', by rw [← hr6, hl0]; exact g, by rw [← hB]; exact n3, by rw [← B1]; exact t3, o3, p3, p4, by rw [← p6]; exact q3, q4, by rw [← q6]; exact w3, rfl⟩
  have hrv := vr_len q3
  have hrk := vr_len p3
  rw [List.length_drop] at hrv hrk
  have eqK : ∀ (x : Int64) (e m : Nat), -1 ≤ x.toInt → x.toInt ≤ (m : Int) → m < 2 ^ 31 → x.toInt.toNat ≤ e → nI e - (if x.toInt32 < 0 then 0 else x.toInt32) = nI (e - x.toInt.toNat) := by
    intro x e m hx1 hx2 hm hx3
    by_cases hx0 : 0 ≤ x.toInt
    · rw [i64_nI hx0 (by omega), if_neg (nI_pos (by omega)), pk_sub hx3]
    · have : x = -1 := by
        rw [← Int64.toInt_inj]
        show x.toInt = -1
        omega
      subst this
      rw [if_pos (by decide)]
      rw [show ((-1 : Int64).toInt.toNat) = 0 from by decide, Nat.sub_zero]
      exact Int32.sub_zero _
  have bk := p4
  have bv := q4
  unfold badT at bk bv
  simp only [not_or, Int.not_lt] at bk bv
  refine hg _ hrf _ _ ?_ ?_ ?_ ?_ ?_ ?_ ?_
  · rw [ij 2 (by decide) (by decide), hf8]
    simp only [m1, show ¬ (2 : Nat) = 4 from by decide, show ¬ (2 : Nat) = 5 from by decide, if_false]
    rw [jj 2 (by decide) (by decide), hf6]
    simp only [m1, if_true]
    rw [p5, eqK _ e5 rk.length bk.1 bk.2 (by omega) (by unfold nn at *; omega)]
    show nI (e5 - nn zk) = nI (a + (bs.length - (bs.drop (e1 - a)).length + nn z - rk.length))
    congr 1
    omega
  · rw [ij 3 (by decide) (by decide), hf8]
    simp only [m1, show ¬ (3 : Nat) = 4 from by decide, show ¬ (3 : Nat) = 5 from by decide, if_false]
    rw [jj 3 (by decide) (by decide), hf6]
    simp only [m1, show ¬ (3 : Nat) = 2 from by decide, if_false, if_true]
    exact p5
  · rw [ij 4 (by decide) (by decide), hf8]
    simp only [m1, if_true]
    rw [q5, eqK _ e6 rv.length bv.1 bv.2 (by omega) (by unfold nn at *; omega)]
    show nI (e6 - nn zv) = nI (a + (bs.length - (bs.drop (e1 - a)).length + nn z - rv.length))
    congr 1
    omega
  · rw [ij 5 (by decide) (by decide), hf8]
    simp only [m1, show ¬ (5 : Nat) = 4 from by decide, if_false, if_true]
    exact q5
  · rw [i6]
    show nI e7 = nI (a + (bs.length - (bs.drop (e1 - a)).length + nn z))
    congr 1
    omega
  · show m1 (m1 _ 0 r13) 1 r16 0 = uzz zt
    simp only [m1, show ¬ (0 : Nat) = 1 from by decide, if_false, if_true]
    exact t4
  · show m1 (m1 _ 0 r13) 1 r16 1 = uzz zo
    simp only [m1, if_true]
    exact o4
