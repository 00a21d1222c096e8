/-! the model judges records: keys -/
theorem By_inj {a b : Int32} (ha : By a) (hb : By b) (h : a &&& 255 = b &&& 255) : a = b := By_bits ha hb (fun i _ => by rw [h])
theorem Rm_at {l : Nat} {B : List Bm} : ∀ n, n ≤ B.length → ∀ {r : Nat} {e : ME}, (Rm l (B.take n))[r]? = some e → ∃ i x k c, e = (i, x, k, c) ∧ i < n ∧ B[i]? = some x ∧ mL x = l ∧ (rsB (mB x))[k]? = some c ∧ r = (Rm l (B.take i)).length + k
  | 0, _, r, e, h => by rw [List.take_zero] at h; cases h
  | n + 1, hn, r, e, h => by
    obtain ⟨x, hx⟩ := lt_some (show n < B.length by omega)
    rw [Rm_s hx] at h
    by_cases z : r < (Rm l (B.take n)).length
    · rw [List.getElem?_append_left z] at h
      obtain ⟨i, x, k, c, h1, h2, h3, h4, h5, h6⟩ := Rm_at n (by omega) h
      exact ⟨i, x, k, c, h1, by omega, h3, h4, h5, h6⟩
    · rw [List.getElem?_append_right (by omega)] at h
      by_cases w : mL x = l
      · rw [if_pos w] at h
        obtain ⟨c, hc, e1⟩ := rcs_of h
        exact ⟨n, x, _, c, e1, by omega, hx, w, hc, by omega⟩
      · rw [if_neg w] at h; cases h
theorem Rm_ix {l i k : Nat} {B : List Bm} {x : Bm} {c : Rc} (hx : B[i]? = some x) (hl : mL x = l) (hc : (rsB (mB x))[k]? = some c) : (Rm l B)[(Rm l (B.take i)).length + k]? = some (i, x, k, c) := by
  have hi : i < B.length := (List.getElem?_eq_some_iff.mp hx).1
  have hk : k < (rsB (mB x)).length := (List.getElem?_eq_some_iff.mp hc).1
  have ez : B.zipIdx = (B.take (i + 1)).zipIdx ++ (B.drop (i + 1)).zipIdx (i + 1) := by
    have := List.zipIdx_append (xs := B.take (i + 1)) (ys := B.drop (i + 1)) (k := 0)
    rw [List.take_append_drop, List.length_take, Nat.min_eq_left (by omega), Nat.zero_add] at this
    exact this
  have e : ∃ T, Rm l B = Rm l (B.take (i + 1)) ++ T := ⟨_, by unfold Rm; rw [ez, List.flatMap_append]⟩
  obtain ⟨T, e⟩ := e
  rw [e, Rm_s hx, if_pos hl, List.append_assoc, List.getElem?_append_right (by omega), Nat.add_sub_cancel_left, List.getElem?_append_left (by rw [rcs_len]; exact hk)]
  exact rcs_at hc
def KeyM (q : Nat → Nat → Nat) (M : Mm) (hp r : Nat) (key : List Int32) : Prop := ∃ a, mI M (q 20 59) r = nI key.length ∧ mI M (q 20 58) r = nI a ∧ Lie (mI M (q 20 hp)) a (m8 key) ∧ Bys key ∧ a + key.length ≤ 524288
theorem m_key {nL W nB hp ht l r : Nat} {q : Nat → Nat → Nat} {S : Nat → List Sg} {B : List Bm} {st en : Nat → Int64} {M : Mm} {e : ME} (hG : Geo nL W nB S) (hLM : LogM q nL W nB M st en S B hp ht) (hOK : LogOK nL S) (hr : RecA q M (Rm l B)) (he : (Rm l B)[r]? = some e) : (kyE e = none → mI M (q 20 59) r = -1) ∧ ∀ key, kyE e = some key → KeyM q M hp r key := by
  obtain ⟨i, x, k, c, rfl, hi, hx, hxl, hc, er⟩ := Rm_at B.length (Nat.le_refl _) (by rw [List.take_of_length_le (Nat.le_refl _)]; exact he)
  obtain ⟨f1, f2, f3, f4, f5⟩ := hr r _ he
  simp only at f4 f5
  have hb := m_bok hOK hLM hx
  obtain ⟨la, -, -, hrec⟩ := Bat_rec hb
  obtain ⟨r1, r2, r3⟩ := rp_at hrec.1 hb.1 hc
  obtain ⟨v1, v2, v3, v4, v5, v6, v7, v8, v9⟩ := m_at hG hLM hx
  have h16 := hb.2.1
  obtain ⟨d1, d2, d3, d4, d5, d6⟩ := RF_dims r1
  have hmN : mN x = (mB x).length := rfl
  have ek : kyE (i, x, k, c) = if rK c = -1 then none else some (((mB x).drop (rp (rsB (mB x)) k + rKa c)).take (rK c).toInt.toNat) := rfl
  rw [ek]
  rcases rK_cases r1 (by rw [List.length_drop]; omega) with ⟨k1, k2⟩ | ⟨k1, k2, k3⟩
  · rw [if_pos k1]
    exact ⟨fun _ => by rw [f5, k2], (fun key h => by cases h)⟩
  · rw [if_neg k1]
    refine ⟨(fun h => by cases h), fun key h => ?_⟩
    have h := Option.some.inj h
    have kl : key.length = (rK c).toInt.toNat := by rw [← h, List.length_take, List.length_drop]; omega
    refine ⟨mA x + rp (rsB (mB x)) k + rKa c, by rw [f5, k2, kl], f4, ?_, ?_, by rw [kl]; omega⟩
    · rw [← h, m8_take, m8_drop, Nat.add_assoc]
      exact Lie_take (Lie_drop v5 _ (by rw [m8_len]; omega)) _
    · rw [← h]; exact Bys_take (Bys_drop v6 _) _
theorem m_same {Y : Ly} {q : Nat → Nat → Nat} {nL W nB : Nat} {M : Mm} {hp r r' : Nat} {key key' : List Int32} {Kn : Int32 → Mm → Prop} (hC : SC Y q nL W nB) (hM : SM q (mR M)) (hH : hpR q (mR M) hp) (hr : r < 40000) (hr' : r' < 40000) (h1 : KeyM q M hp r key) (h2 : KeyM q M hp r' key') (hy : key = key' → Kn 1 M) (hn : ¬ key = key' → Kn 0 M) : f_X12_isSameKey Y (q 20 0) (nI r) (nI r') M Kn := by
  obtain ⟨a, s1, s2, s3, s4, s5⟩ := h1
  obtain ⟨a', u1, u2, u3, u4, u5⟩ := h2
  obtain ⟨kh, nh⟩ := hp_k hC hH.1
  have cr : (nI r).toNatClampNeg = r := nI_clamp (by omega)
  have cr' : (nI r').toNatClampNeg = r' := nI_clamp (by omega)
  have vr : ∀ b, yN Y b = 40000 → vp_in (nI r) (yN Y b) := fun b hb => by rw [hb]; exact vp_in_nI hr (by decide)
  have vr' : ∀ b, yN Y b = 40000 → vp_in (nI r') (yN Y b) := fun b hb => by rw [hb]; exact vp_in_nI hr' (by decide)
  unfold f_X12_isSameKey
  refine ⟨sk_20_0 hC, _, sm_58 hM, sk_20_59 hC, vr _ (sn_20_59 hC), _, sm_58 hM, sk_20_59 hC, vr' _ (sn_20_59 hC), ?_⟩
  rw [cr, cr', s1, u1, nI_eq (by omega) (by omega)]
  have go : ∀ y8 : Int32, ((y8 = 1 ∧ key.length = key'.length) ∨ (y8 = 0 ∧ ¬ key = key')) → f_X12_isSameKey_20 Y (q 20 0) (nI r) (nI r') M Kn y8 := by
    intro y8 h8
    unfold f_X12_isSameKey_20
    refine LOOP2_inv (fun x9 x10 => ∃ i, i ≤ key.length ∧ x10 = nI i ∧ ((x9 = 1 ∧ key.length = key'.length ∧ ∀ i', i' < i → key.getD i' 0 = key'.getD i' 0) ∨ (x9 = 0 ∧ ¬ key = key'))) (fun _ x10 => key.length - x10.toNatClampNeg) ?_ _ _ ⟨0, by omega, rfl, h8.elim (fun w => Or.inl ⟨w.1, w.2, fun i' h => by omega⟩) Or.inr⟩
    rintro x9 x10 again ⟨i, hi, rfl, hall⟩ hag
    unfold L_X12_isSameKey_24 f_X12_isSameKey_82 f_X12_isSameKey_75
    refine ⟨_, sm_58 hM, sk_20_59 hC, vr _ (sn_20_59 hC), ?_⟩
    rw [cr, s1, nI_cmp (by omega) (by omega)]
    refine ⟨fun c => ?_, fun c => ⟨fun z => ?_, fun z => ?_⟩⟩
    · rcases hall with ⟨w1, w2, w3⟩ | ⟨w1, w2⟩
      · rw [w1]; exact ⟨Or.inr rfl, hy (list_eq w2 (fun j hj => w3 j (by omega)))⟩
      · rw [w1]; exact ⟨Or.inl rfl, hn w2⟩
    · rcases hall with ⟨w1, w2, w3⟩ | ⟨w1, w2⟩
      · rw [w1] at z; exact absurd z (by decide)
      · rw [w1]; exact ⟨Or.inl rfl, hn w2⟩
    · rcases hall with ⟨w1, w2, w3⟩ | ⟨w1, w2⟩
      · refine ⟨_, hH.2.1, _, sm_57 hM, sk_20_58 hC, vr _ (sn_20_58 hC), kh, ?_⟩
        rw [s2, nI_add]
        refine ⟨by rw [nh]; exact vp_in_nI (by omega) (by decide), _, hH.2.1, _, sm_57 hM, sk_20_58 hC, vr' _ (sn_20_58 hC), kh, ?_⟩
        rw [cr', u2, nI_add, nI_clamp (by omega), nI_clamp (by omega), m8_fB s3 (show i < key.length by omega), m8_fB u3 (show i < key'.length by omega)]
        have hb1 : By (fB key i) := s4 _ (by unfold fB; rw [List.getD_eq_getElem?_getD, List.getElem?_eq_getElem (show i < key.length by omega)]; exact List.getElem_mem _)
        have hb2 : By (fB key' i) := u4 _ (by unfold fB; rw [List.getD_eq_getElem?_getD, List.getElem?_eq_getElem (show i < key'.length by omega)]; exact List.getElem_mem _)
        refine ⟨by rw [nh]; exact vp_in_nI (by omega) (by decide), fun d x29 e29 => ?_, fun d x29 e29 => ?_⟩
        · rw [nI_1] at e29
          subst e29
          refine hag _ _ ⟨i + 1, by omega, rfl, Or.inr ⟨rfl, fun e => d (by rw [e])⟩⟩ (by rw [nI_clamp (by omega), nI_clamp (by omega)]; omega)
        · rw [nI_1] at e29
          subst e29
          refine hag _ _ ⟨i + 1, by omega, rfl, Or.inl ⟨rfl, w2, fun i' hi' => ?_⟩⟩ (by rw [nI_clamp (by omega), nI_clamp (by omega)]; omega)
          by_cases y : i' = i
          · rw [y]; exact By_inj hb1 hb2 d
          · exact w3 i' (by omega)
      · exact absurd w1 z
  exact ⟨fun c => go 0 (Or.inr ⟨rfl, fun e => c (by rw [e])⟩), fun c => go 1 (Or.inl ⟨rfl, c⟩)⟩
def clo (S : List Sg) (l : Nat) (x : Bm) : Prop := mL x = l ∧ ∀ S0 s, S = S0 ++ [s] → ¬ mS x = s.1
theorem m_openL {Y : Ly} {q : Nat → Nat → Nat} {nL W nB : Nat} {hp ht : Nat} {S : Nat → List Sg} {B : List Bm} {st en : Nat → Int64} {M : Mm} (hC : SC Y q nL W nB) (hM : SM q (mR M)) (hG : Geo nL W nB S) (hLM : LogM q nL W nB M st en S B hp ht) {l : Nat} {Kn : Int32 → Mm → Prop} (hl : l ≤ nL) (h0 : S l = [] → Kn (-1) M) (h1 : ∀ S0 s, S l = S0 ++ [s] → Kn (nI s.1) M) : f_X12_open Y (q 20 0) (nI l) M Kn := by
  have hd := sdims hC
  have hseg := hLM.2.2.2.2.2.2.1 l hl
  have hS := (hG.1 l hl).1
  have vl9 : vp_in (nI l) (yN Y (q 20 29)) := by rw [sn_20_29 hC]; exact vp_in_nI (by omega) (by decide)
  have cl : (nI l).toNatClampNeg = l := nI_clamp (by omega)
  unfold f_X12_open f_X12_open_31
  refine ⟨sk_20_0 hC, _, sm_28 hM, sk_20_29 hC, vl9, ?_⟩
  rw [cl, hseg.1, nIeq (x := 0) (b := 0) rfl (by omega) (by decide)]
  refine ⟨fun c => ?_, fun c => h0 (List.length_eq_zero_iff.mp c)⟩
  rcases snoc_cases (S l) with e | ⟨S0, s, e⟩
  · rw [e] at c; exact absurd rfl c
  have el : (S l).length = S0.length + 1 := by rw [e, List.length_append, List.length_singleton]
  have e2 : mI M (q 20 30) (60 * l + S0.length) = nI s.1 := (hseg.2 S0.length s (by rw [e]; simp)).1
  refine ⟨_, sm_29 hM, _, sm_28 hM, sk_20_29 hC, vl9, sk_20_30 hC, ?_⟩
  rw [hseg.1, el, e60, show nI (60 * l + (S0.length + 1)) - 1 = nI (60 * l + S0.length) from by rw [← Nat.add_assoc]; exact nI_pred _, nI_clamp (by omega), e2]
  exact ⟨by rw [sn_20_30 hC]; exact vp_in_nI (by omega) (by decide), h1 S0 s e⟩
theorem m_isClosed {Y : Ly} {q : Nat → Nat → Nat} {nL W nB : Nat} {hp ht : Nat} {S : Nat → List Sg} {B : List Bm} {st en : Nat → Int64} {M : Mm} (hC : SC Y q nL W nB) (hM : SM q (mR M)) (hG : Geo nL W nB S) (hLM : LogM q nL W nB M st en S B hp ht) {l i : Nat} {x : Bm} {Kn : Int32 → Mm → Prop} (hl : l ≤ nL) (hx : B[i]? = some x) (h1 : clo (S l) l x → Kn 1 M) (h0 : ¬ clo (S l) l x → Kn 0 M) : f_X12_isClosed Y (q 20 0) (nI i) (nI l) M Kn := by
  have hd := sdims hC
  have hct := Lnk_count hG hLM.2.2.2.2.2.2.2.2
  have hi := some_lt hx
  obtain ⟨v1, v2, v3, v4, v5, v6, v7, v8, v9⟩ := m_at hG hLM hx
  have vin : ∀ b, yN Y b = 4500 → vp_in (nI i) (yN Y b) := fun b hb => by rw [hb]; exact vp_in_nI (by omega) (by decide)
  obtain ⟨s', hs', e', hb'⟩ := Lnk_mem hLM.2.2.2.2.2.2.2.2 (List.mem_of_getElem? hx)
  have hgs := (hG.1 _ v9).2 s' hs'
  unfold f_X12_isClosed f_X12_isClosed_28 f_X12_isClosed_29
  refine ⟨sk_20_0 hC, _, sm_19 hM, sk_20_20 hC, vin _ (sn_20_20 hC), ?_⟩
  rw [nI_clamp (by omega), v1, nI_eq (by omega) (by omega)]
  refine ⟨fun c => ⟨Or.inl rfl, h0 (fun z => c z.1)⟩, fun c => ⟨_, sm_22 hM, sk_20_23 hC, vin _ (sn_20_23 hC), ?_⟩⟩
  refine m_openL hC hM hG hLM hl (fun e => ?_) (fun S0 s e => ?_)
  · exfalso
    rw [c, e] at hs'; cases hs'
  · have hgs2 := (hG.1 l hl).2 s (by rw [e]; simp)
    rw [v4, nI_eq (by omega) (by omega)]
    refine ⟨fun d => ⟨Or.inl rfl, h0 (fun z => z.2 S0 s e d)⟩, fun d => ⟨Or.inr rfl, h1 ⟨c, fun S1 s1 e1 => ?_⟩⟩⟩
    rw [e] at e1
    rw [← (snoc_inj e1).2]; exact d
