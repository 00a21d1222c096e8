theorem m_ep {Y : Ly} {q : Nat → Nat → Nat} {nL W nB hp ht i : Nat} {S : Nat → List Sg} {B : List Bm} {st en : Nat → Int64} {M : Mm} {Kn : Int32 → Mm → Prop} (hC : SC Y q nL W nB) (hM : SM q (mR M)) (hG : Geo nL W nB S) (hLM : LogM q nL W nB M st en S B hp ht) {x : Bm} (hx : B[i]? = some x) (h : Kn (epB (mB x)) M) : f_X12_epochOf Y (q 20 0) (nI i) M Kn := by
  have hd := sdims hC
  have hct := Lnk_count hG hLM.2.2.2.2.2.2.2.2
  have hi := some_lt hx
  obtain ⟨v1, v2, v3, v4, v5, v6, v7, v8, v9⟩ := m_at hG hLM hx
  unfold f_X12_epochOf
  refine ⟨sk_20_0 hC, _, hLM.2.2.2.2.1.2.1, _, sm_20 hM, sk_20_21 hC, by rw [sn_20_21 hC]; exact vp_in_nI (by omega) (by decide), ?_⟩
  rw [nI_clamp (by omega), v2, show (51 : Int32) = nI 51 from rfl, nI_add]
  exact m_num (n := 2) hC hG hLM hx (by simp) (by omega) h
theorem m_sq {Y : Ly} {q : Nat → Nat → Nat} {nL W nB hp ht i : Nat} {S : Nat → List Sg} {B : List Bm} {st en : Nat → Int64} {M : Mm} {Kn : Int32 → Mm → Prop} (hC : SC Y q nL W nB) (hM : SM q (mR M)) (hG : Geo nL W nB S) (hLM : LogM q nL W nB M st en S B hp ht) {x : Bm} (hx : B[i]? = some x) (h : Kn (sqB (mB x)) M) : f_X12_sequenceOf Y (q 20 0) (nI i) M Kn := by
  have hd := sdims hC
  have hct := Lnk_count hG hLM.2.2.2.2.2.2.2.2
  have hi := some_lt hx
  obtain ⟨v1, v2, v3, v4, v5, v6, v7, v8, v9⟩ := m_at hG hLM hx
  unfold f_X12_sequenceOf
  refine ⟨sk_20_0 hC, _, hLM.2.2.2.2.1.2.1, _, sm_20 hM, sk_20_21 hC, by rw [sn_20_21 hC]; exact vp_in_nI (by omega) (by decide), ?_⟩
  rw [nI_clamp (by omega), v2, show (53 : Int32) = nI 53 from rfl, nI_add]
  exact m_num (n := 4) hC hG hLM hx (by simp) (by omega) h
theorem m_la {Y : Ly} {q : Nat → Nat → Nat} {nL W nB hp ht i : Nat} {S : Nat → List Sg} {B : List Bm} {st en : Nat → Int64} {M : Mm} {Kn : Int32 → Mm → Prop} (hC : SC Y q nL W nB) (hM : SM q (mR M)) (hG : Geo nL W nB S) (hLM : LogM q nL W nB M st en S B hp ht) {x : Bm} (hx : B[i]? = some x) (h : Kn (laB (mB x)) M) : f_X12_last Y (q 20 0) (nI i) M Kn := by
  have hd := sdims hC
  have hct := Lnk_count hG hLM.2.2.2.2.2.2.2.2
  have hi := some_lt hx
  obtain ⟨v1, v2, v3, v4, v5, v6, v7, v8, v9⟩ := m_at hG hLM hx
  unfold f_X12_last
  refine ⟨sk_20_0 hC, _, hLM.2.2.2.2.1.2.1, _, sm_20 hM, sk_20_21 hC, by rw [sn_20_21 hC]; exact vp_in_nI (by omega) (by decide), ?_⟩
  rw [nI_clamp (by omega), v2, show (23 : Int32) = nI 23 from rfl, nI_add]
  exact m_num (n := 4) hC hG hLM hx (by simp) (by omega) h
theorem m_ba {Y : Ly} {q : Nat → Nat → Nat} {nL W nB hp ht i : Nat} {S : Nat → List Sg} {B : List Bm} {st en : Nat → Int64} {M : Mm} {Kn : Int64 → Mm → Prop} (hC : SC Y q nL W nB) (hM : SM q (mR M)) (hG : Geo nL W nB S) (hLM : LogM q nL W nB M st en S B hp ht) {x : Bm} (hx : B[i]? = some x) (h : Kn (baB (mB x)) M) : f_X12_base Y (q 20 0) (nI i) M Kn := by
  have hd := sdims hC
  have hct := Lnk_count hG hLM.2.2.2.2.2.2.2.2
  have hi := some_lt hx
  obtain ⟨v1, v2, v3, v4, v5, v6, v7, v8, v9⟩ := m_at hG hLM hx
  unfold f_X12_base
  refine ⟨sk_20_0 hC, _, hLM.2.2.2.2.1.2.1, _, sm_20 hM, sk_20_21 hC, by rw [sn_20_21 hC]; exact vp_in_nI (by omega) (by decide), ?_⟩
  rw [nI_clamp (by omega), v2, show mA x = mA x + 0 from rfl]
  exact m_num (n := 8) hC hG hLM hx (by simp) (by omega) h
theorem m_pr {Y : Ly} {q : Nat → Nat → Nat} {nL W nB hp ht i : Nat} {S : Nat → List Sg} {B : List Bm} {st en : Nat → Int64} {M : Mm} {Kn : Int64 → Mm → Prop} (hC : SC Y q nL W nB) (hM : SM q (mR M)) (hG : Geo nL W nB S) (hLM : LogM q nL W nB M st en S B hp ht) {x : Bm} (hx : B[i]? = some x) (h : Kn (prB (mB x)) M) : f_X12_producerOf Y (q 20 0) (nI i) M Kn := by
  have hd := sdims hC
  have hct := Lnk_count hG hLM.2.2.2.2.2.2.2.2
  have hi := some_lt hx
  obtain ⟨v1, v2, v3, v4, v5, v6, v7, v8, v9⟩ := m_at hG hLM hx
  unfold f_X12_producerOf
  refine ⟨sk_20_0 hC, _, hLM.2.2.2.2.1.2.1, _, sm_20 hM, sk_20_21 hC, by rw [sn_20_21 hC]; exact vp_in_nI (by omega) (by decide), ?_⟩
  rw [nI_clamp (by omega), v2, show (43 : Int32) = nI 43 from rfl, nI_add]
  exact m_num (n := 8) hC hG hLM hx (by simp) (by omega) h
theorem m_ct {Y : Ly} {q : Nat → Nat → Nat} {nL W nB hp ht i : Nat} {S : Nat → List Sg} {B : List Bm} {st en : Nat → Int64} {M : Mm} {Kn : Int32 → Mm → Prop} (hC : SC Y q nL W nB) (hM : SM q (mR M)) (hG : Geo nL W nB S) (hLM : LogM q nL W nB M st en S B hp ht) {x : Bm} (hx : B[i]? = some x) (h : Kn (cntB (mB x)) M) : f_X12_countOf Y (q 20 0) (nI i) M Kn := by
  have hd := sdims hC
  have hct := Lnk_count hG hLM.2.2.2.2.2.2.2.2
  have hi := some_lt hx
  obtain ⟨v1, v2, v3, v4, v5, v6, v7, v8, v9⟩ := m_at hG hLM hx
  unfold f_X12_countOf
  refine ⟨sk_20_0 hC, _, hLM.2.2.2.2.1.2.1, _, sm_20 hM, sk_20_21 hC, by rw [sn_20_21 hC]; exact vp_in_nI (by omega) (by decide), ?_⟩
  rw [nI_clamp (by omega), v2, show (57 : Int32) = nI 57 from rfl, nI_add]
  exact m_num (n := 4) hC hG hLM hx (by simp) (by omega) h
theorem m_ft {Y : Ly} {q : Nat → Nat → Nat} {nL W nB hp ht i : Nat} {S : Nat → List Sg} {B : List Bm} {st en : Nat → Int64} {M : Mm} {Kn : Int64 → Mm → Prop} (hC : SC Y q nL W nB) (hM : SM q (mR M)) (hG : Geo nL W nB S) (hLM : LogM q nL W nB M st en S B hp ht) {x : Bm} (hx : B[i]? = some x) (h : Kn (ftB (mB x)) M) : f_X12_firstTime Y (q 20 0) (nI i) M Kn := by
  have hd := sdims hC
  have hct := Lnk_count hG hLM.2.2.2.2.2.2.2.2
  have hi := some_lt hx
  obtain ⟨v1, v2, v3, v4, v5, v6, v7, v8, v9⟩ := m_at hG hLM hx
  unfold f_X12_firstTime
  refine ⟨sk_20_0 hC, _, hLM.2.2.2.2.1.2.1, _, sm_20 hM, sk_20_21 hC, by rw [sn_20_21 hC]; exact vp_in_nI (by omega) (by decide), ?_⟩
  rw [nI_clamp (by omega), v2, show (27 : Int32) = nI 27 from rfl, nI_add]
  exact m_num (n := 8) hC hG hLM hx (by simp) (by omega) h
theorem m_kn {nL W nB : Nat} {S : Nat → List Sg} {B : List Bm} (hG : Geo nL W nB S) (hnB : nB ≤ 256) (hk : Lnk nL S B) {l : Nat} (hl : l ≤ nL) (p : Int64) (r : Nat) : (Kb (S l) p r = none ∧ ans (fun x => x.2) (knL (fM l p) r B.zipIdx.reverse) = -1) ∨ ∃ i x, B[i]? = some x ∧ Kb (S l) p r = some (mB x) ∧ mL x = l ∧ ans (fun x => x.2) (knL (fM l p) r B.zipIdx.reverse) = nI i ∧ i < 4500 := by
  rw [← Kb_m hk hl]
  cases h : knL (fM l p) r B.zipIdx.reverse with
  | none => left; exact ⟨rfl, rfl⟩
  | some x =>
    right
    obtain ⟨hm, hf⟩ := knL_mem h
    have hx := zip_of (List.mem_reverse.mp hm)
    have hct := Lnk_count hG hk
    have hi := some_lt hx
    have h2 : nB * 1024 ≤ 256 * 1024 := Nat.mul_le_mul_right _ hnB
    unfold fM at hf
    simp at hf
    exact ⟨x.2, x.1, hx, rfl, hf.1, rfl, by omega⟩
theorem m_tnum {Y : Ly} {q : Nat → Nat → Nat} {nL W nB o n : Nat} {bt : Bt} {M : Mm} {Kn : Int64 → Mm → Prop} (hC : SC Y q nL W nB) (hL : Lie (mI M (q 20 11)) 0 (m8 bt)) (h61 : 61 ≤ bt.length) (hn : n = 2 ∨ n = 4 ∨ n = 8) (ho : o + n ≤ 61) (h : Kn (beS (fB bt) o n) M) : f_X12_number Y (q 20 11) (nI o) (nI n) M Kn := by
  have n11 := sn_20_11 hC
  refine s_number (sk_20_11 hC) (by omega) (by omega) (by omega) ?_
  have := mo_fB hL hn (show o + n ≤ bt.length by omega)
  rw [Nat.zero_add] at this
  rw [this]
  exact h
theorem m_judged {Y : Ly} {q : Nat → Nat → Nat} {nL W nB hp ht l : Nat} {bt : Bt} {S : Nat → List Sg} {B : List Bm} {st en : Nat → Int64} {M : Mm} {Kn : Int64 → Mm → Prop} (hC : SC Y q nL W nB) (hM : SM q (mR M)) (hG : Geo nL W nB S) (hOK : LogOK nL S) (hLM : LogM q nL W nB M st en S B hp ht) (hl : l ≤ nL) (hL : Lie (mI M (q 20 11)) 0 (m8 bt)) (h61 : 61 ≤ bt.length) (hp : prB bt = -1 ∨ 0 ≤ prB bt)
    (h : ∀ v, Jd bt (if prB bt = -1 then fun _ => none else Kb (S l) (prB bt)) v → Kn v M) : f_X12_judged Y (q 20 0) (nI l) M Kn := by
  have hd := sdims hC
  have hk := hLM.2.2.2.2.2.2.2.2
  have okB : ∀ x i, B[i]? = some x → mL x = l → BatOK (mB x) := fun x i hx hlx => by
    obtain ⟨s, hs, -, hb⟩ := Lnk_mem hk (List.mem_of_getElem? hx)
    rw [hlx] at hs
    exact hOK l hl _ (List.mem_flatMap.mpr ⟨s, hs, hb⟩)
  unfold f_X12_judged
  refine ⟨sk_20_0 hC, _, sm_10 hM, m_tnum (o := 43) (n := 8) hC hL h61 (by simp) (by omega) ?_⟩
  refine ⟨_, sm_10 hM, m_tnum (o := 51) (n := 2) hC hL h61 (by simp) (by omega) ?_⟩
  intro x8 e8
  have e8' : x8 = epB bt := e8
  clear e8
  subst e8'
  refine ⟨_, sm_10 hM, m_tnum (o := 53) (n := 4) hC hL h61 (by simp) (by omega) ?_⟩
  intro x12 e12
  have e12' : x12 = sqB bt := e12
  clear e12
  subst e12'
  refine m_knownOne (r := 0) (p := prB bt) hC hM hG hLM (by decide) hl ?_
  by_cases hp1 : prB bt = -1
  · rw [if_pos hp1] at h
    rw [if_pos (by rw [hp1]; decide)]
    exact ⟨fun c => absurd c (by decide), fun _ => h _ (Or.inl ⟨rfl, rfl⟩)⟩
  rw [if_neg hp1] at h
  have hpn : ¬ prB bt < 0 := Int64.not_lt.mpr (hp.resolve_left hp1)
  rw [if_neg hpn]
  rcases m_kn hG hd.2.2.2.2.2 hk hl (prB bt) 0 with ⟨e1, e2⟩ | ⟨i0, x0, e1, e2, e3, e4, e5⟩
  · rw [e2]
    exact ⟨fun c => absurd c (by decide), fun _ => h _ (Or.inl ⟨e1, rfl⟩)⟩
  rw [e4]
  refine ⟨fun _ => m_ep hC hM hG hLM e1 ⟨fun c => ?_, fun c => h _ (Or.inr ⟨_, e2, Or.inl ⟨c, rfl⟩⟩)⟩, fun c => absurd (nI_pos' (by omega)) c⟩
  refine LOOP2_inv (fun x19 M20 => ∃ r, M20 = M ∧ x19 = nI r ∧ r ≤ 5 ∧ ∀ j b', j < r → Kb (S l) (prB bt) j = some b' → ¬ sent bt b') (fun x19 _ => 5 - x19.toNatClampNeg) ?_ _ _ ⟨0, rfl, rfl, by omega, fun j b' hj => by omega⟩
  rintro x19 M20 again ⟨r, rfl, rfl, hr, hall⟩ hag
  unfold L_X12_judged_74
  rw [show (5 : Int32) = nI 5 from rfl, nI_cmp (by omega) (by omega)]
  refine ⟨fun c5 => ?_, fun c5 => ?_⟩
  · refine m_ep hC hM hG hLM e1 ?_
    have t181 : ∀ y24, y24 = (if epB bt = epB (mB x0) then b_next (fB (mB x0)) 0 else 0) → f_X12_judged_181 Y Kn (sqB bt) y24 M20 := by
      intro y24 hy
      unfold f_X12_judged_181 f_X12_judged_199
      have hJ : ∀ v, v = (if sqB bt = y24 then (-1 : Int64) else -7) → Kn v M20 := fun v hv => h v (Or.inr ⟨_, e2, Or.inr ⟨c, Or.inr ⟨fun j b' hj => hall j b' (by omega), by rw [hv, hy]⟩⟩⟩)
      exact ⟨fun z => hJ _ (by rw [if_neg z]), fun z => hJ _ (by rw [if_pos z])⟩
    refine ⟨fun z => m_sq hC hM hG hLM e1 (m_la hC hM hG hLM e1 ?_), fun z => t181 0 ?_⟩
    · unfold f_X12_after
      refine t181 _ ?_
      have eq : epB bt = epB (mB x0) := Int32.le_antisymm z c
      rw [if_pos eq]
      obtain ⟨-, -, -, -, -, -, o7, la, rs, o8, o9, -⟩ := okB x0 i0 e1 e3
      have hpr : prB (mB x0) = prB bt := (Kb_mem e2).2
      rcases o7 with o7 | ⟨-, s, hs, o7⟩
      · rw [hpr] at o7; exact absurd o7 hp1
      · rw [o7, o9, ← next_after hs o8]
        show (nI s + nI la + 1) &&& 2147483647 = (sqB (mB x0) + laB (mB x0) + 1) &&& 2147483647
        rw [o7, o9]
    · rw [if_neg (fun eq => z (by rw [eq]; exact Int32.le_refl _))]
  · refine m_knownOne (p := prB bt) hC hM hG hLM (by omega) hl ?_
    rw [if_neg hpn]
    have nx : (∀ b', Kb (S l) (prB bt) r = some b' → ¬ sent bt b') → f_X12_judged_145 Y (nI r) again M20 := by
      intro hr'
      unfold f_X12_judged_145
      intro x33 e33
      rw [nI_1] at e33
      subst e33
      refine hag _ _ ⟨r + 1, rfl, rfl, by omega, fun j b' hj hb' => ?_⟩ ?_
      · by_cases e : j = r
        · subst e; exact hr' b' hb'
        · exact hall j b' (by omega) hb'
      · rw [nI_clamp (by omega), nI_clamp (by omega)]; omega
    rcases m_kn hG hd.2.2.2.2.2 hk hl (prB bt) r with ⟨f1, f2⟩ | ⟨i, x, f1, f2, f3, f4, f5⟩
    · rw [f2]
      exact ⟨fun _ => nx (fun b' hb' => by rw [f1] at hb'; cases hb'), fun z => absurd (by decide) z⟩
    rw [f4]
    refine ⟨fun z => absurd z (nI_pos (by omega)), fun _ => m_ep hC hM hG hLM f1 ?_⟩
    have no : ¬ sent bt (mB x) → f_X12_judged_145 Y (nI r) again M20 := fun hn => nx (fun b' hb' => by rw [f2] at hb'; cases hb'; exact hn)
    refine ⟨fun z => no (fun s => z s.1.symm), fun z1 => m_sq hC hM hG hLM f1 ?_⟩
    refine ⟨fun z => no (fun s => z s.2.1.symm), fun z2 => m_la hC hM hG hLM f1 ?_⟩
    refine ⟨_, sm_10 hM, m_tnum (o := 23) (n := 4) hC hL h61 (by simp) (by omega) ?_⟩
    have ext : (laB (mB x)).toInt64 = beS (fB bt) 23 4 ↔ laB bt = laB (mB x) := by
      unfold laB
      rw [beS4_ext]
      constructor
      · intro e; rw [e]
      · intro e; rw [← beS4_ext (fB bt), e, beS4_ext]
    rw [ext]
    refine ⟨fun z => no (fun s => z s.2.2), fun z3 => m_ba hC hM hG hLM f1 ?_⟩
    exact h _ (Or.inr ⟨_, e2, Or.inr ⟨c, Or.inl ⟨r, mB x, by omega, f2, ⟨z1.symm, z2.symm, z3⟩, hall, rfl⟩⟩⟩)
