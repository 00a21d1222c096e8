/-! a batch that is sent again -/
theorem beS4_ext (f : Nat → Int32) (a : Nat) : ((beS f a 4).toInt32).toInt64 = beS f a 4 := by
  unfold beS
  obtain ⟨x, hx⟩ : ∃ x, x = beU f a 4 := ⟨_, rfl⟩
  rw [← hx, ← Int64.toBitVec_inj, Int32.toBitVec_toInt64, Int64.toBitVec_toInt32, shS x 4 (by simp)]
  apply BitVec.eq_of_getLsbD_eq
  intro i hi
  have key : ∀ j, j < 64 → ((x.toBitVec <<< (64 - 8 * 4)).sshiftRight (64 - 8 * 4)).getLsbD j = if j < 32 then x.toBitVec.getLsbD j else x.toBitVec.getLsbD 31 := by
    intro j hj
    rw [BitVec.getLsbD_sshiftRight]
    by_cases g : j < 32
    · rw [if_pos g, if_pos (by omega), BitVec.getLsbD_shiftLeft]
      simp [hj, show ¬ 64 ≤ j by omega, show ¬ 32 + j < 32 by omega, show 32 + j < 64 by omega]
    · rw [if_neg g, if_neg (by omega), BitVec.msb_eq_getLsbD_last, BitVec.getLsbD_shiftLeft]
      simp [hj]
  rw [BitVec.getLsbD_signExtend, key i hi]
  by_cases g : i < 32
  · rw [if_pos g]
    simp only [hi, g, decide_true, Bool.true_and, if_true]
    rw [BitVec.signExtend_eq_setWidth_of_le _ (by decide), BitVec.getLsbD_setWidth, key i (by omega), if_pos g]
    simp [g]
  · rw [if_neg g]
    simp only [hi, g, decide_true, decide_false, Bool.true_and, if_false]
    rw [BitVec.msb_eq_getLsbD_last, BitVec.signExtend_eq_setWidth_of_le _ (by decide), BitVec.getLsbD_setWidth]
    rw [show (32 - 1 : Nat) = 31 from rfl, key 31 (by omega)]
    simp
theorem mask31 (n : Nat) (h : n < 2 ^ 32) : nI n &&& 2147483647 = nI (n % 2147483648) := pk_andN h 31 rfl
theorem next_after {s a : Nat} (hs : s < 2 ^ 31) (ha : a < 1000) : ((nI s + nI a) + 1) &&& 2147483647 = ((((nI s).toInt64 + (nI a).toInt64) + 1) - (((nI s).toInt64 + (nI a).toInt64) + 1) / 2147483648 * 2147483648).toInt32 := by
  rw [nI_l hs, nI_l (by omega), lN_add, lN_1, nI_add, nI_1, mask31 _ (by omega), show (2147483648 : Int64) = lN 2147483648 from rfl, pk_lRem (by omega) (by decide) (by decide), lN_i]
def sent (bt b : Bt) : Prop := epB bt = epB b ∧ sqB bt = sqB b ∧ laB bt = laB b
/-- what is known keeps the batch from being appended: the answer -/
def Jd (bt : Bt) (K : Nat → Option Bt) (v : Int64) : Prop :=
  (K 0 = none ∧ v = -1) ∨ (∃ b0, K 0 = some b0 ∧ ((¬ epB b0 ≤ epB bt ∧ v = -6) ∨ (epB b0 ≤ epB bt ∧ ((∃ r b, r < 5 ∧ K r = some b ∧ sent bt b ∧ (∀ j b', j < r → K j = some b' → ¬ sent bt b') ∧ v = baB b) ∨ ((∀ j b', j < 5 → K j = some b' → ¬ sent bt b') ∧ v = if sqB bt = (if epB bt = epB b0 then b_next (fB b0) 0 else 0) then -1 else -7)))))
theorem Jd_fun {bt : Bt} {K : Nat → Option Bt} {v w : Int64} (h : Jd bt K v) (h' : Jd bt K w) : v = w := by
  rcases h with ⟨a, b⟩ | ⟨b0, a, h⟩
  · rcases h' with ⟨a', b'⟩ | ⟨b0', a', h'⟩
    · rw [b, b']
    · rw [a] at a'; cases a'
  · rcases h' with ⟨a', b'⟩ | ⟨b0', a', h'⟩
    · rw [a] at a'; cases a'
    · rw [a] at a'; cases a'
      rcases h with ⟨c, d⟩ | ⟨c, h⟩
      · rcases h' with ⟨c', d'⟩ | ⟨c', h'⟩
        · rw [d, d']
        · exact absurd c' c
      · rcases h' with ⟨c', d'⟩ | ⟨c', h'⟩
        · exact absurd c c'
        · rcases h with ⟨r, b, h1, h2, h3, h4, h5⟩ | ⟨h1, h2⟩
          · rcases h' with ⟨r', b', h1', h2', h3', h4', h5'⟩ | ⟨h1', h2'⟩
            · rcases Nat.lt_trichotomy r r' with g | g | g
              · exact absurd h3 (h4' r b g h2)
              · subst g; rw [h2] at h2'; cases h2'; rw [h5, h5']
              · exact absurd h3' (h4 r' b' g h2')
            · exact absurd h3 (h1' r b h1 h2)
          · rcases h' with ⟨r', b', h1', h2', h3', h4', h5'⟩ | ⟨h1', h2'⟩
            · exact absurd h3' (h1 r' b' h1' h2')
            · rw [h2, h2']
theorem Kb_mem {S : List Sg} {p : Int64} {r : Nat} {b : Bt} (h : Kb S p r = some b) : b ∈ BS S ∧ prB b = p := by
  have := knL_mem h
  exact ⟨List.mem_reverse.mp this.1, by simpa using this.2⟩
/-- the class's place of a known batch -/
theorem c_kn {Y : Ly} {q : Nat → Nat → Nat} {nL W nB l : Nat} {p : Int64} {S : Nat → List Sg} {st en : Nat → Int64} {M : Mm} (hG : Geo nL W nB S) (hD : DkA nL (mI M (q 0 11)) st en S) (hl : l ≤ nL) (hnB : nB ≤ 256) (r : Nat) : (Kb (S l) p r = none ∧ ans (fun x => x.1) (knL (fun x : Nat × Bt => decide (prB x.2 = p)) r (PS (S l)).reverse) = -1) ∨ ∃ a b, Kb (S l) p r = some b ∧ ans (fun x => x.1) (knL (fun x : Nat × Bt => decide (prB x.2 = p)) r (PS (S l)).reverse) = nI a ∧ Lie (mI M (q 0 11)) a b ∧ a + b.length ≤ nB * 1024 ∧ 61 ≤ b.length ∧ a < 2 ^ 31 := by
  rw [← Kb_c]
  cases hk : knL (fun x : Nat × Bt => decide (prB x.2 = p)) r (PS (S l)).reverse with
  | none => left; exact ⟨rfl, rfl⟩
  | some x =>
    right
    have hm := List.mem_reverse.mp (knL_mem hk).1
    have h1 := PS_lo hG hl hm
    exact ⟨x.1, x.2, rfl, rfl, (hD l hl).2 x hm, h1.2.1, h1.2.2, PS_b hG hl hnB x hk⟩
theorem c_answer {Y : Ly} {q : Nat → Nat → Nat} {nL W nB l : Nat} {bt : Bt} {S : Nat → List Sg} {st en : Nat → Int64} {M : Mm} {Kn : Int64 → Mm → Prop} (hC : SC Y q nL W nB) (hR : SR q nL (mR M)) (hl : l ≤ nL) (hG : Geo nL W nB S) (hLC : LogC q nL W nB M st en S) (hD : DkA nL (mI M (q 0 11)) st en S) (hL : Lie (mI M (q 0 1)) 0 bt) (h61 : 61 ≤ bt.length)
    (h : ∀ v, Jd bt (if prB bt = -1 then fun _ => none else Kb (S l) (prB bt)) v → Kn v M) : f_X9_answerAsKnown Y (q 0 13) (q (l + 1) 0) (q 0 1) M Kn := by
  have hd := sdims hC
  have k1 := sk_0_1 hC
  have k11 := sk_0_11 hC
  have n1 := sn_0_1 hC
  have n11 := sn_0_11 hC
  unfold f_X9_answerAsKnown
  refine s_producerOf (a := 0) k1 (by omega) (by omega) ?_
  rw [show b_producerOf (mI M (q 0 1)) 0 = prB bt from beS_fB hL (by omega)]
  refine ⟨sk_0_13 hC, c_knownAt (r := 0) hC hR hl hG hLC hD (by decide) ?_⟩
  by_cases hp : prB bt = -1
  · rw [if_pos hp] at h ⊢
    exact ⟨fun c => absurd rfl c, fun _ => h _ (Or.inl ⟨rfl, rfl⟩)⟩
  rw [if_neg hp] at h ⊢
  rcases c_kn (Y := Y) (q := q) (M := M) (p := prB bt) hG hD hl hd.2.2.2.2.2 0 with ⟨e1, e2⟩ | ⟨a0, b0, e1, e2, e3, e4, e5, e6⟩
  · rw [e2]
    exact ⟨fun c => absurd rfl c, fun _ => h _ (Or.inl ⟨e1, rfl⟩)⟩
  rw [e2]
  refine ⟨fun _ => ?_, fun c => absurd c (nI_nm1 e6)⟩
  refine s_epochOf (a := 0) k1 (by omega) (by omega) ?_
  refine ⟨_, sr_0_13_0 hR, sk_0_10 hC, _, sr_0_10_0 hR, s_epochOf (a := a0) k11 (by omega) (by omega) ?_⟩
  rw [show b_epochOf (mI M (q 0 1)) 0 = epB bt from by unfold b_epochOf epB; rw [beS_fB hL (by omega)], show b_epochOf (mI M (q 0 11)) a0 = epB b0 from by unfold b_epochOf epB; rw [beS_fB e3 (by omega)]]
  refine ⟨fun c => ?_, fun c => h _ (Or.inr ⟨b0, e1, Or.inl ⟨c, rfl⟩⟩)⟩
  refine LOOP2_inv (fun x15 M16 => ∃ r, M16 = M ∧ x15 = nI r ∧ r ≤ 5 ∧ ∀ j b', j < r → Kb (S l) (prB bt) j = some b' → ¬ sent bt b') (fun x15 _ => 5 - x15.toNatClampNeg) ?_ _ _ ⟨0, rfl, rfl, by omega, fun j b' hj => by omega⟩
  rintro x15 M16 again ⟨r, rfl, rfl, hr, hall⟩ hag
  unfold L_X9_answerAsKnown_60
  rw [show (5 : Int32) = nI 5 from rfl, nI_cmp (by omega) (by omega)]
  refine ⟨fun c5 => ?_, fun c5 => ?_⟩
  · have t134 : ∀ y18, y18 = (if epB bt = epB b0 then b_next (fB b0) 0 else 0) → f_X9_answerAsKnown_134 Y (q 0 1) Kn y18 M16 := by
      intro y18 hy
      unfold f_X9_answerAsKnown_134 f_X9_answerAsKnown_155
      refine s_sequenceOf (a := 0) k1 (by omega) (by omega) ?_
      rw [show b_sequenceOf (mI M16 (q 0 1)) 0 = sqB bt from by unfold b_sequenceOf sqB; rw [beS_fB hL (by omega)]]
      have hJ : ∀ v, v = (if sqB bt = y18 then (-1 : Int64) else -7) → Kn v M16 := fun v hv => h v (Or.inr ⟨b0, e1, Or.inr ⟨c, Or.inr ⟨fun j b' hj => hall j b' (by omega), by rw [hv, hy]⟩⟩⟩)
      exact ⟨fun z => hJ _ (by rw [if_neg z]), fun z => hJ _ (by rw [if_pos z])⟩
    refine ⟨fun z => t134 0 (by rw [if_neg z]), fun z => ⟨_, sr_0_13_0 hR, sk_0_10 hC, _, sr_0_10_0 hR, s_nextSequenceOf (a := a0) k11 (by omega) (by omega) ?_⟩⟩
    refine t134 _ ?_
    rw [if_pos z]
    unfold b_next b_sequenceOf b_lastOf
    rw [beS_fB e3 (by omega), beS_fB e3 (by omega), Nat.zero_add, Nat.zero_add]
  · refine c_knownAt hC hR hl hG hLC hD (by omega) ?_
    rw [if_neg hp]
    have nx : (∀ b', Kb (S l) (prB bt) r = some b' → ¬ sent bt b') → f_X9_answerAsKnown_105 Y (nI r) again M16 := by
      intro hr'
      unfold f_X9_answerAsKnown_105
      intro x33 e33
      rw [nI_1] at e33
      subst e33
      refine hag _ _ ⟨r + 1, rfl, rfl, by omega, fun j b' hj hb' => ?_⟩ ?_
      · by_cases e : j = r
        · subst e; exact hr' b' hb'
        · exact hall j b' (by omega) hb'
      · rw [nI_clamp (by omega), nI_clamp (by omega)]; omega
    rcases c_kn (Y := Y) (q := q) (M := M16) (p := prB bt) hG hD hl hd.2.2.2.2.2 r with ⟨f1, f2⟩ | ⟨a, b, f1, f2, f3, f4, f5, f6⟩
    · rw [f2]
      exact ⟨fun _ => nx (fun b' hb' => by rw [f1] at hb'; cases hb'), fun z => absurd rfl z⟩
    rw [f2]
    refine ⟨fun z => absurd z (nI_nm1 f6), fun _ => ?_⟩
    unfold f_X9_isSentAgain f_X9_isSentAgain_61 f_X9_isSentAgain_62
    have no : ¬ sent bt b → f_X9_answerAsKnown_105 Y (nI r) again M16 := fun hn => nx (fun b' hb' => by rw [f1] at hb'; cases hb'; exact hn)
    refine s_epochOf (a := 0) k1 (by omega) (by omega) ⟨sk_0_13 hC, _, sr_0_13_0 hR, sk_0_10 hC, _, sr_0_10_0 hR, s_epochOf (a := a) k11 (by omega) (by omega) ?_⟩
    rw [show b_epochOf (mI M16 (q 0 1)) 0 = epB bt from by unfold b_epochOf epB; rw [beS_fB hL (by omega)], show b_epochOf (mI M16 (q 0 11)) a = epB b from by unfold b_epochOf epB; rw [beS_fB f3 (by omega)]]
    refine ⟨fun z => ⟨bz_0, fun _ => no (fun s => z s.1), fun w => absurd rfl w⟩, fun z1 => ?_⟩
    refine s_sequenceOf (a := 0) k1 (by omega) (by omega) ⟨_, sr_0_13_0 hR, sk_0_10 hC, _, sr_0_10_0 hR, s_sequenceOf (a := a) k11 (by omega) (by omega) ?_⟩
    rw [show b_sequenceOf (mI M16 (q 0 1)) 0 = sqB bt from by unfold b_sequenceOf sqB; rw [beS_fB hL (by omega)], show b_sequenceOf (mI M16 (q 0 11)) a = sqB b from by unfold b_sequenceOf sqB; rw [beS_fB f3 (by omega)]]
    refine ⟨fun z => ⟨bz_0, fun _ => no (fun s => z s.2.1), fun w => absurd rfl w⟩, fun z2 => ?_⟩
    refine s_lastOf (a := 0) k1 (by omega) (by omega) ⟨_, sr_0_13_0 hR, sk_0_10 hC, _, sr_0_10_0 hR, s_lastOf (a := a) k11 (by omega) (by omega) ?_⟩
    rw [show b_lastOf (mI M16 (q 0 1)) 0 = laB bt from by unfold b_lastOf laB; rw [beS_fB hL (by omega)], show b_lastOf (mI M16 (q 0 11)) a = laB b from by unfold b_lastOf laB; rw [beS_fB f3 (by omega)]]
    refine ⟨fun z => ⟨bz_0, fun _ => no (fun s => z s.2.2), fun w => absurd rfl w⟩, fun z3 => ⟨bz_1, fun w => absurd w (by decide), fun _ => ?_⟩⟩
    refine ⟨_, sr_0_13_0 hR, sk_0_10 hC, _, sr_0_10_0 hR, s_baseOf (a := a) k11 (by omega) (by omega) ?_⟩
    refine h _ (Or.inr ⟨b0, e1, Or.inr ⟨c, Or.inl ⟨r, b, by omega, f1, ⟨z1, z2, z3⟩, hall, ?_⟩⟩⟩)
    exact beS_fB (i := 0) f3 (by omega)
