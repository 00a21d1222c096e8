/-! what the disk holds of the logs -/
def DkL (f : Nat → Int32) (l : Nat) (st en : Int64) (S : List Sg) : Prop := Lie f ((l + 1) * 1024) (hdL st en S) ∧ ∀ p, p ∈ PS S → Lie f p.1 p.2
def DkA (nL : Nat) (f : Nat → Int32) (st en : Nat → Int64) (S : Nat → List Sg) : Prop := ∀ l, l ≤ nL → DkL f l (st l) (en l) (S l)
set_option maxRecDepth 8000 in
theorem Add_PS {nL W nB l k x : Nat} {S : Nat → List Sg} {b : Bt} {T : List Sg} (h : AddR nL W nB S l b T k x) : PS T = PS (S l) ++ [(k * 1024 + x, b)] := by
  rcases h with ⟨S0, bs, e1, e2, e3, e4⟩ | ⟨e0, e1, e2, e3, e4⟩
  · rw [e3, e1, PS_last, e4]
  · rw [e3, PS_app, PS_1, e4]; rfl
set_option maxRecDepth 8000 in
theorem PS_lo {nL W nB l : Nat} {S : Nat → List Sg} (hG : Geo nL W nB S) (hl : l ≤ nL) {p : Nat × Bt} (hp : p ∈ PS (S l)) : (nL + 2) * 1024 ≤ p.1 ∧ p.1 + p.2.length ≤ nB * 1024 ∧ 61 ≤ p.2.length := by
  obtain ⟨s, hs, h1, h2, h3⟩ := PS_in hp
  have gs := (hG.1 l hl).2 s hs
  have a1 : (nL + 2) * 1024 ≤ s.1 * 1024 := Nat.mul_le_mul_right _ gs.1
  have a2 : s.1 * 1024 + W * 1024 ≤ nB * 1024 := by rw [← Nat.add_mul]; exact Nat.mul_le_mul_right _ gs.2.1
  have a3 := gs.2.2.1
  exact ⟨Nat.le_trans a1 h1, by omega, gs.2.2.2.2 _ h3⟩
set_option maxRecDepth 8000 in
theorem Dk_old {nL W nB l k x : Nat} {S : Nat → List Sg} {b : Bt} {T : List Sg} {f f' : Nat → Int32} {st en : Nat → Int64} (hG : Geo nL W nB S) (hl : l ≤ nL) (h61 : 61 ≤ b.length) (hb : b.length ≤ W * 1024) (h : AddR nL W nB S l b T k x) (hD : DkA nL f st en S) (hf : ∀ j, (j < k * 1024 + x ∨ k * 1024 + x + b.length ≤ j) → f' j = f j) : DkA nL f' st en S := by
  obtain ⟨r1, r2, r3, r4⟩ := Add_reg hG hl h61 hb h
  have r1' : (nL + 2) * 1024 ≤ k * 1024 := Nat.mul_le_mul_right _ r1
  intro l' hl'
  obtain ⟨d1, d2⟩ := hD l' hl'
  refine ⟨Lie_move d1 (fun j hj => hf _ (Or.inl ?_)), fun p hp => Lie_move (d2 p hp) (fun j hj => hf _ ?_)⟩
  · rw [hdL_len _ _ (hG.1 l' hl').1] at hj
    have : (l' + 2) * 1024 ≤ (nL + 2) * 1024 := Nat.mul_le_mul_right _ (by omega)
    omega
  · have := r4 l' hl' p hp
    omega
set_option maxRecDepth 8000 in
theorem Dk_new {nL W nB l k x : Nat} {S : Nat → List Sg} {b : Bt} {T : List Sg} {f f' : Nat → Int32} {st en : Nat → Int64} {en' : Int64} (hG : Geo nL W nB S) (hl : l ≤ nL) (h61 : 61 ≤ b.length) (hb : b.length ≤ W * 1024) (h : AddR nL W nB S l b T k x) (hD : DkA nL f st en S) (hf : ∀ j, (j < k * 1024 + x ∨ k * 1024 + x + b.length ≤ j) → (j < (l + 1) * 1024 ∨ (l + 1) * 1024 + 500 ≤ j) → f' j = f j) (hh : Lie f' ((l + 1) * 1024) (hdL (st l) en' T)) (hp : Lie f' (k * 1024 + x) b) : DkA nL f' st (m1 en l en') (m1 S l T) := by
  obtain ⟨r1, r2, r3, r4⟩ := Add_reg hG hl h61 hb h
  have r1' : (nL + 2) * 1024 ≤ k * 1024 := Nat.mul_le_mul_right _ r1
  have hl2 : (l + 2) * 1024 ≤ (nL + 2) * 1024 := Nat.mul_le_mul_right _ (by omega)
  have keep : ∀ l', l' ≤ nL → ∀ p, p ∈ PS (S l') → Lie f' p.1 p.2 := by
    intro l' hl' p hp
    refine Lie_move ((hD l' hl').2 p hp) (fun j hj => hf _ ?_ (Or.inr ?_))
    · have := r4 l' hl' p hp
      omega
    · have := PS_lo hG hl' hp
      omega
  intro l' hl'
  by_cases e : l' = l
  · subst e
    rw [m1_self, m1_self]
    refine ⟨hh, fun p hp' => ?_⟩
    rw [Add_PS h] at hp'
    rcases List.mem_append.mp hp' with hp' | hp'
    · exact keep l' hl' p hp'
    · simp only [List.mem_singleton] at hp'
      subst hp'; exact hp
  · rw [m1_ne _ _ e, m1_ne _ _ e]
    refine ⟨Lie_move (hD l' hl').1 (fun j hj => hf _ (Or.inl ?_) ?_), keep l' hl'⟩
    · rw [hdL_len _ _ (hG.1 l' hl').1] at hj
      have : (l' + 2) * 1024 ≤ (nL + 2) * 1024 := Nat.mul_le_mul_right _ (by omega)
      omega
    · rw [hdL_len _ _ (hG.1 l' hl').1] at hj
      rcases Nat.lt_or_ge l' l with g | g
      · left
        have : (l' + 2) * 1024 ≤ (l + 1) * 1024 := Nat.mul_le_mul_right _ (by omega)
        omega
      · right
        have : (l + 2) * 1024 ≤ (l' + 1) * 1024 := Nat.mul_le_mul_right _ (by omega)
        omega
set_option maxRecDepth 8000 in
theorem tch_seg (k x n : Nat) : tch (k * 1024 + x) n = tch x n := by
  unfold tch
  split
  · rfl
  · omega
/-- the state of the logs in the class, while the power is there -/
def LogC (q : Nat → Nat → Nat) (nL W nB : Nat) (M : Mm) (st en : Nat → Int64) (S : Nat → List Sg) : Prop :=
  mI M (q 0 13) 2 = nI W ∧ mI M (q 0 13) 3 = nI (nL + 2) ∧ (∀ l, l ≤ nL → mI M (q (l + 1) 0) 0 = nI (l + 1) ∧ TabM q l M (S l) ∧ mJ M (q (l + 1) 0) 1 = st l ∧ mJ M (q (l + 1) 0) 2 = en l)
set_option maxRecDepth 8000 in
theorem c_append {Y : Ly} {q : Nat → Nat → Nat} {nL W nB l c : Nat} {S : Nat → List Sg} {st en : Nat → Int64} {bt : Bt} {M : Mm} {Kn : Int64 → Mm → Prop} (hC : SC Y q nL W nB) (hR : SR q nL (mR M)) (hl : l ≤ nL) (hc : c = 1 ∨ c = 33) (hG : Geo nL W nB S) (hLC : LogC q nL W nB M st en S) (hD : DkA nL (mI M (q 0 11)) st en S) (h3 : mI M (q 0 10) 3 = 0) (hlf : LfOK (mI M (q 0 10) 2)) (hL : Lie (mI M (q 0 c)) 0 bt) (h61 : 61 ≤ bt.length) (hbW : bt.length ≤ W * 1024) (hcl : bt.length ≤ yN Y (q 0 c))
    (hfull : AddF nL W nB S l bt.length → ∀ u, Kn (-2) (sI M (q 0 15) u))
    (h : ∀ T k x, AddR nL W nB S l (based (en l) bt) T k x → ∀ M' l' ad dn full, SpR (mI M (q 0 10) 2) (tch x bt.length + 1) l' ad dn full → Fr q (Ap l c) M M' → mI M' (q (l + 1) 0) 0 = nI (l + 1) → mI M' (q 0 10) 1 = mI M (q 0 10) 1 + nI ad → mI M' (q 0 10) 2 = l' → mI M' (q 0 10) 3 = dn → TabM q l M' T → mJ M' (q (l + 1) 0) 1 = st l → mJ M' (q (l + 1) 0) 2 = en l + (cntB bt).toInt64 →
      (full → DkA nL (mI M' (q 0 11)) st (m1 en l (en l + (cntB bt).toInt64)) (m1 S l T)) → (¬ full → DkA nL (mI M' (q 0 11)) st en S) → (∀ j, j < 1024 → mI M' (q 0 11) j = mI M (q 0 11) j) → Kn (if dn = 0 then en l else -3) M') : f_X9_append Y (q 0 13) (q (l + 1) 0) (q 0 c) (nI bt.length) M Kn := by
  have hd := sdims hC
  obtain ⟨hW, hF, hA⟩ := hLC
  obtain ⟨a0, aT, ast, aen⟩ := hA l hl
  have hGl := hG.1 l hl
  have hbl := based_len (en l) h61
  -- behind the choice of the segment
  have tail : ∀ (S0 : List Sg) (k : Nat) (bs : List Bt) (T : List Sg) (x : Nat) (u : Nat → Int32) (M4 : Mm), AddR nL W nB S l (based (en l) bt) T k x → T = S0 ++ [(k, bs ++ [based (en l) bt])] → x = sz (k, bs) → S0.length < 60 → Fr q (Ap l c) M M4 → mJ M4 = mJ M → mI M4 (q (l + 1) 0) 0 = nI (l + 1) → TabM q l M4 (S0 ++ [(k, bs)]) → (∀ b, b ≠ 15 → mI M4 (q 0 b) = mI M (q 0 b)) → f_X9_append_48 Y (q 0 13) (q (l + 1) 0) (q 0 c) (nI bt.length) Kn M4 := by
    intro S0 k bs T x u M4 hAdd eT ex hS0 F4 J4 H4 T4 D4
    obtain ⟨r1, r2, r3, r4⟩ := Add_reg hG hl (by omega) (by omega) hAdd
    have hG' := Add_Geo hG hl (by omega) (by omega) hAdd
    have hcnt := Geo_count hG' hl
    rw [m1_self, eT, PS_last, List.length_append, List.length_singleton] at hcnt
    have r1' : (nL + 2) * 1024 ≤ k * 1024 := Nat.mul_le_mul_right _ r1
    have r2' : k * 1024 + W * 1024 ≤ nB * 1024 := by rw [← Nat.add_mul]; exact Nat.mul_le_mul_right _ r2
    have d10 : 10 ≠ 15 ∧ 11 ≠ 15 := by decide
    have e10 := D4 10 d10.1
    have e11 := D4 11 d10.2
    have ec : mI M4 (q 0 c) = mI M (q 0 c) := D4 c (by rcases hc with rfl | rfl <;> decide)
    have Jen : mJ M4 (q (l + 1) 0) 2 = en l := by rw [J4, aen]
    have Jst : mJ M4 (q (l + 1) 0) 1 = st l := by rw [J4, ast]
    refine c_append48 (S0 := S0) (k := k) (bs := bs) (bt := bt) hC (by rw [F4.2]; exact hR) hl hc T4 hS0 (by omega) ?_ H4 (by rw [e10]; exact h3) (by rw [e10]; exact hlf) (by rw [ec]; exact hL) h61 hcl r1' (by omega) ?_
    · rw [Jen, ← eT]
      intro s hs
      have gs := (hG'.1 l hl).2 s (by rw [m1_self]; exact hs)
      omega
    · rw [Jen, Jst, e10, e11, ← ex, tch_seg, ← eT]
      intro M' l' ad dn full hsp F' H' W' L' D' U' T' jst jen f1 f2 f3
      refine h T k x hAdd M' l' ad dn full hsp (Fr_trans F4 F') H' W' L' D' T' jst jen ?_ ?_ ?_
      · intro hf
        exact Dk_new hG hl (by omega) (by omega) hAdd hD (by rw [hbl]; exact f1) (f3 hf).1 (f3 hf).2
      · intro hf
        exact Dk_old hG hl (by omega) (by omega) hAdd hD (by rw [hbl]; exact f2 hf)
      · intro j hj
        exact f1 j (Or.inl (by omega)) (Or.inl (by omega))
  have nofit : ∀ M1, M1 = M → (∀ S0 s, S l = S0 ++ [s] → W * 1024 < sz s + bt.length) → f_X9_countUses Y (q 0 13) M1 (fun M27 => (yK Y (q (l + 1) 0) = 8 ∧ ((60 ≤ (mI M27 (q (l + 1) 0) 3) → (f_X9_append_30 Y (q 0 13) (q (l + 1) 0) (q 0 c) (nI bt.length) Kn (-1) M27)) ∧ (¬ (60 ≤ (mI M27 (q (l + 1) 0) 3)) → (f_X9_takeSegment Y (q 0 13) M27 (fun r35 M34 => (f_X9_append_30 Y (q 0 13) (q (l + 1) 0) (q 0 c) (nI bt.length) Kn r35 M34))))))) := by
    intro M1 e1 hno
    subst e1
    refine c_countUses hC hR hW (fun l hl => (hA l hl).2.1) (fun l hl => (hG.1 l hl).1) (fun l hl s hs => ((hG.1 l hl).2 s hs).2.1) (fun b => Nat.le_trans (hG.2 b) (by decide)) ?_
    intro u hu
    rw [I_ne hC _ _ (by omega), aT.1, show (60 : Int32) = nI 60 from rfl, nI_cmp (by omega) (by omega)]
    refine ⟨sk_t_0 hC l hl, fun c60 => ?_, fun c60 => ?_⟩
    · unfold f_X9_append_30
      exact ⟨fun cc => absurd rfl cc, fun _ => hfull ⟨hno, Or.inl (by omega)⟩ u⟩
    · refine c_take hC (by rw [mR_sI]; exact hR) (by rw [I_ne hC _ _ (by omega)]; exact hW) (by rw [I_ne hC _ _ (by omega)]; exact hF) (by rw [mI_sI_self]; exact hu) (fun b => Nat.le_trans (hG.2 b) (by decide)) ?_ ?_
      · intro k hk u2 hu2
        rw [sI_sI]
        unfold f_X9_append_30
        have hkb := hk.2.1
        refine ⟨fun _ => ?_, fun cc => absurd cc (nI_nm1 (by omega))⟩
        refine c_addSegment (S := S l) (k := k) hC (by rw [mR_sI]; exact hR) hl (TabM_of aT (fun x => I_ne hC _ _ (by omega))) (by omega) ?_
        intro M32 F32 J32 H32 T32
        have hAdd : AddR nL W nB S l (based (en l) bt) (S l ++ [(k, [based (en l) bt])]) k 0 := Or.inr ⟨by rw [hbl]; exact hno, by omega, hk, rfl, rfl⟩
        refine tail (S l) k [] _ 0 u2 M32 hAdd rfl rfl (by omega) (Fr_trans (Fr_sI _ _ _ _ (Or.inr ⟨rfl, by simp⟩)) (Fr_mono F32 (fun a b hab => Or.inl hab))) (by rw [J32]; rfl) (by rw [H32, I_ne hC _ _ (by omega)]; exact a0) T32 ?_
        intro b hb
        rw [Fr_I hC F32 (by omega), I_ne hC _ _ (by omega)]
      · intro hno2
        unfold f_X9_append_30
        exact ⟨fun cc => absurd rfl cc, fun _ => hfull ⟨hno, Or.inr hno2⟩ u⟩
  unfold f_X9_append f_X9_hasOpenRoom f_X9_hasOpenRoom_34 f_X9_hasOpenRoom_35
  refine ⟨sk_0_13 hC, sk_t_0 hC l hl, fun x2 e2 => ?_⟩
  rw [aT.1] at e2
  rcases List.eq_nil_or_concat (S l) with hnil | ⟨S0, s, hS⟩
  · rw [hnil] at e2
    have hx2 : x2 < 0 := by rw [e2]; decide
    refine ⟨fun _ => ⟨bz_0, fun cc => absurd rfl cc, fun _ => nofit M rfl ?_⟩, fun cc => absurd hx2 cc⟩
    intro S1 s1 hs
    rw [hnil] at hs
    simp at hs
  · rw [List.concat_eq_append] at hS
    rw [hS, List.length_append, List.length_singleton] at e2
    have e2' : x2 = nI S0.length := by rw [e2]; exact nI_pred _
    clear e2
    subst e2'
    have hlen : S0.length < 60 := by have := hGl.1; rw [hS] at this; simp at this; omega
    obtain ⟨k, bs⟩ := s
    have tz := aT.2.2.2.1
    rw [hS, List.map_append] at tz
    have ez := Ar_last tz
    rw [List.length_map] at ez
    have gs := hGl.2 (k, bs) (by rw [hS]; simp)
    refine ⟨fun cc => absurd cc (nI_pos (by omega)), fun _ => ⟨_, sr_t_5 hR l hl, sk_t_2 hC l hl, by rw [sn_t_2 hC l hl]; exact vp_in_nI hlen (by decide), sk_0_13 hC, ?_⟩⟩
    rw [nI_clamp (by omega), ez, hW, show (1024 : Int32) = nI 1024 from rfl, pk_mul, nI_add, nI_ltI (by omega) (by omega)]
    refine ⟨fun cc => ⟨bz_0, fun z => absurd rfl z, fun _ => nofit M rfl ?_⟩, fun cc => ⟨bz_1, fun _ => ?_, fun z => absurd z (by decide)⟩⟩
    · intro S1 s1 hs
      rw [hS] at hs
      obtain ⟨-, h2⟩ := List.append_inj' hs rfl
      cases h2
      exact cc
    · have hAdd : AddR nL W nB S l (based (en l) bt) (S0 ++ [(k, bs ++ [based (en l) bt])]) k (sz (k, bs)) := Or.inl ⟨S0, bs, hS, by omega, rfl, rfl⟩
      exact tail S0 k bs _ _ (mI M (q 0 15)) M hAdd rfl rfl hlen (Fr_refl _ _ _) rfl a0 (by rw [← hS]; exact aT) (fun b _ => rfl)
