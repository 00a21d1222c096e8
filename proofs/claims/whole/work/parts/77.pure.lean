theorem drop_s {α : Type} {xs : List α} {i : Nat} {x : α} (h : xs[i]? = some x) : xs.drop i = x :: xs.drop (i + 1) := by
  have hi := some_lt h
  rw [List.drop_eq_getElem_cons hi]
  have := List.getElem?_eq_getElem hi
  rw [h] at this
  rw [← Option.some.inj this]
theorem BS_at {nL W nB l : Nat} {S : Nat → List Sg} {i : Nat} {p : Nat × Bt} (hOK : LogOK nL S) (hl : l ≤ nL) (hp : (PS (S l))[i]? = some p) : (BS (S l))[i]? = some p.2 ∧ BatOK p.2 := by
  have e : (BS (S l))[i]? = some p.2 := by rw [← PS_snd, List.getElem?_map, hp]; rfl
  exact ⟨e, hOK l hl _ (List.mem_of_getElem? e)⟩
theorem c_reach {Y : Ly} {q : Nat → Nat → Nat} {nL W nB : Nat} {S : Nat → List Sg} {st en : Nat → Int64} {M : Mm} (hC : SC Y q nL W nB) (hR : SR q nL (mR M)) (hG : Geo nL W nB S) (hLC : LogC q nL W nB M st en S) (hD : DkA nL (mI M (q 0 11)) st en S) (hOK : LogOK nL S) {l : Nat} {off : Int64} {Kn : Int32 → Mm → Prop} (hl : l ≤ nL)
    (h : ∀ i M', i ≤ (BS (S l)).length → (∀ j b, j < i → (BS (S l))[j]? = some b → ¬ off ≤ hiB b) → (∀ b, (BS (S l))[i]? = some b → off ≤ hiB b) → Fr q (F1 17) M M' → Kn (nI i) M') : f_X9_firstReaching Y (q 0 13) (q (l + 1) 0) off M Kn := by
  have hd := sdims hC
  have hct := Geo_count hG hl
  have hPB := PS_len (S l)
  unfold f_X9_firstReaching
  refine LOOP2_inv (fun x1 M2 => ∃ i, i ≤ (BS (S l)).length ∧ x1 = nI i ∧ (∀ j b, j < i → (BS (S l))[j]? = some b → ¬ off ≤ hiB b) ∧ Fr q (F1 17) M M2) (fun x1 _ => (BS (S l)).length - x1.toNatClampNeg) ?_ _ _ ⟨0, by omega, rfl, fun j b hj => by omega, Fr_refl _ _ _⟩
  rintro x1 M2 again ⟨i, hi, rfl, hlow, F⟩ hag
  have hLC2 := LogC_fr hC hLC F (by simp [F1]) (fun l c => by simp [F1])
  have hR2 : SR q nL (mR M2) := by rw [F.2]; exact hR
  have hD2 : DkA nL (mI M2 (q 0 11)) st en S := by rw [Fr_I hC F (by simp [F1])]; exact hD
  unfold L_X9_firstReaching_3 f_X9_firstReaching_34
  refine ⟨sk_t_0 hC l hl, ?_⟩
  rw [(hLC2.2.2 l hl).2.1.2.1, nI_cmp (by omega) (by omega)]
  refine ⟨fun c => h i M2 hi hlow (fun b hb => by have := some_lt hb; omega) F, fun c => ?_⟩
  obtain ⟨p, hp⟩ := lt_some (show i < (PS (S l)).length by omega)
  obtain ⟨v1, v2, v3, v4⟩ := c_at (Y := Y) hG hLC2 hD2 hl hp
  obtain ⟨w1, w2⟩ := BS_at (W := W) (nB := nB) hOK hl hp
  refine ⟨_, sr_t_8 hR2 l hl, sk_t_4 hC l hl, by rw [sn_t_4 hC l hl]; exact vp_in_nI (by omega) (by omega), sk_0_13 hC, ?_⟩
  rw [nI_clamp (by omega), v1]
  refine c_great hC hR2 v2 v3 w2 (fun M' F' => ⟨fun c2 => ?_, fun c2 x13 e13 => ?_⟩)
  · exact h i M' hi hlow (fun b hb => by rw [w1] at hb; cases hb; exact c2) (Fr_trans F F')
  · rw [nI_1] at e13
    subst e13
    refine hag _ _ ⟨i + 1, by omega, rfl, fun j b hj hb => ?_, Fr_trans F F'⟩ ?_
    · by_cases e : j = i
      · subst e; rw [w1] at hb; cases hb; exact c2
      · exact hlow j b (by omega) hb
    · rw [nI_clamp (by omega), nI_clamp (by omega)]; omega
/-! the least offset with a time -/
noncomputable def fiR (t : Int64) (b : Bt) : Option Rc := (rsB b).find? (fun c => decide (t ≤ ftB b + rT c))
noncomputable def fiB (t : Int64) : List Bt → Int64
  | [] => -1
  | b :: bs => match fiR t b with
    | some c => baB b + rO c
    | none => fiB t bs
theorem find_s {α : Type} {f : α → Bool} : ∀ {xs : List α} {k : Nat} {x : α}, (∀ j y, j < k → xs[j]? = some y → f y = false) → xs[k]? = some x → f x = true → xs.find? f = some x
  | [], _, _, _, h, _ => by simp at h
  | y :: xs, 0, x, _, h, hf => by
    simp only [List.getElem?_cons_zero, Option.some.injEq] at h
    subst h
    simp [List.find?_cons, hf]
  | y :: xs, k + 1, x, hl, h, hf => by
    simp only [List.getElem?_cons_succ] at h
    have h0 := hl 0 y (by omega) rfl
    rw [List.find?_cons, h0]
    exact find_s (fun j z hj hz => hl (j + 1) z (by omega) (by simpa using hz)) h hf
theorem find_n {α : Type} {f : α → Bool} {xs : List α} (h : ∀ j y, j < xs.length → xs[j]? = some y → f y = false) : xs.find? f = none := by
  rw [List.find?_eq_none]
  intro x hx
  obtain ⟨i, hi⟩ := List.getElem?_of_mem hx
  rw [h i x (some_lt hi) hi]; simp
theorem ft_fB {f : Nat → Int32} {a : Nat} {b : Bt} (h : Lie f a b) (hn : 61 ≤ b.length) : b_firstTimeOf f a = ftB b := by
  unfold b_firstTimeOf ftB
  rw [beS_fB h (by omega)]
theorem gt_fB {f : Nat → Int32} {a : Nat} {b : Bt} (h : Lie f a b) (hn : 61 ≤ b.length) : b_greatestTimeOf f a = gtB b := by
  unfold b_greatestTimeOf gtB
  rw [beS_fB h (by omega)]
theorem c_sinceIn {Y : Ly} {q : Nat → Nat → Nat} {nL W nB : Nat} {M : Mm} {Kn : Int64 → Mm → Prop} {b : Bt} {p : Nat} {t : Int64} (hC : SC Y q nL W nB) (hR : SR q nL (mR M)) (hL : Lie (mI M (q 0 11)) p b) (hp : p + b.length ≤ nB * 1024) (hb : BatOK b) (h : ∀ M', Fr q (F1 17) M M' → Kn (match fiR t b with | some c => baB b + rO c | none => -1) M') : f_X9_firstSinceIn Y (q 0 13) (nI p) t M Kn := by
  have hd := sdims hC
  obtain ⟨la, hla, hlaB, hrec⟩ := Bat_rec hb
  have h61 := hb.1
  have hlen := hrec.2.2.1
  have n11 := sn_0_11 hC
  unfold f_X9_firstSinceIn
  refine ⟨sk_0_13 hC, _, sr_0_13_0 hR, sk_0_10 hC, _, sr_0_10_0 hR, ?_⟩
  refine s_countOf (sk_0_11 hC) (by omega) (by omega) ⟨_, sr_0_13_0 hR, sk_0_10 hC, _, sr_0_10_0 hR, s_sizeOf (sk_0_11 hC) (by omega) (by omega) (fun x12 e12 => ⟨_, sr_0_13_0 hR, sk_0_10 hC, _, sr_0_10_0 hR, s_firstTimeOf (sk_0_11 hC) (by omega) (by omega) (fun x18 e18 => ?_)⟩)⟩
  rw [sz_B hL hb, nI_add] at e12
  rw [show nI p + 61 = nI (p + 61) from nI_add p 61] at e18
  rw [cnt_fB hL h61, hrec.2.1, ft_fB hL h61]
  subst e12 e18
  refine LOOP3_inv (fun x10 x11 M12 => ∃ k, k ≤ (rsB b).length ∧ x11 = nI k ∧ x10 = nI (p + rp (rsB b) k) ∧ (∀ j c, j < k → (rsB b)[j]? = some c → decide (t ≤ ftB b + rT c) = false) ∧ Fr q (F1 17) M M12) (fun _ x11 _ => (rsB b).length - x11.toNatClampNeg) ?_ _ _ _ ⟨0, by omega, rfl, by rw [rp_0], fun j c hj => by omega, Fr_refl _ _ _⟩
  rintro x10 x11 M12 again ⟨k, hk, rfl, rfl, hlow, F⟩ hag
  unfold L_X9_firstSinceIn_50 f_X9_firstSinceIn_128
  rw [nI_cmp (by omega) (by omega)]
  have hR12 : SR q nL (mR M12) := by rw [F.2]; exact hR
  have hL12 : Lie (mI M12 (q 0 11)) p b := by rw [Fr_I hC F (by simp [F1])]; exact hL
  refine ⟨fun c => ?_, fun c => ⟨_, sr_0_13_6 hR12, _, sr_0_13_0 hR12, sk_0_10 hC, _, sr_0_10_0 hR12, sk_0_17 hC, ?_⟩⟩
  · have := h M12 F
    rwa [show fiR t b = none from find_n (fun j y hj hy => hlow j y (by omega) hy)] at this
  · obtain ⟨r, hr⟩ := lt_some (show k < (rsB b).length by omega)
    refine c_rd (sk_0_17 hC) (sk_0_11 hC) (q_ne hC (by omega)) hL12 h61 hrec.1 hr (Nat.le_refl _) (by omega) (by omega) ?_
    intro f g f2 f3 f4 f5 f6 g0 g1
    have F' : Fr q (F1 17) M (vq M12 (q 0 17) f g) := Fr_trans F (Fr_vq _ _ _ _ _ ⟨rfl, rfl⟩)
    refine ⟨fun z => absurd z (by decide), fun _ => ⟨_, sr_0_13_6 hR12, sk_0_17 hC, ?_⟩⟩
    rw [vq_J, g0]
    refine ⟨fun c2 => ⟨_, sr_0_13_6 hR12, sk_0_17 hC, fun x37 e37 x38 e38 => ?_⟩, fun c2 => ⟨_, sr_0_13_0 hR12, sk_0_10 hC, _, sr_0_10_0 hR12, s_baseOf (sk_0_11 hC) (by omega) (by omega) ⟨_, sr_0_13_6 hR12, sk_0_17 hC, ?_⟩⟩⟩
    · rw [vq_v, f6] at e37
      rw [nI_1] at e38
      subst e37 e38
      refine hag _ _ _ ⟨k + 1, by omega, rfl, rfl, fun j c' hj hc' => ?_, F'⟩ ?_
      · by_cases e : j = k
        · subst e; rw [hr] at hc'; cases hc'
          exact decide_eq_false (Int64.not_le.mpr c2)
        · exact hlow j c' (by omega) hc'
      · rw [nI_clamp (by omega), nI_clamp (by omega)]; omega
    · rw [vq_J, g1, ba_fB (by rw [vq_n _ _ _ (q_ne hC (by omega))]; exact hL12) h61]
      have := h _ F'
      rwa [show fiR t b = some r from find_s hlow hr (decide_eq_true (Int64.not_lt.mp c2))] at this
theorem fiR_none {t : Int64} {b : Bt} (hb : BatOK b) (h : gtB b < t) : fiR t b = none := by
  obtain ⟨la, hla, hlaB, hrec⟩ := Bat_rec hb
  refine find_n (fun j y _ hy => ?_)
  have := hrec.2.2.2.1 y (List.mem_of_getElem? hy)
  exact decide_eq_false (fun z => Int64.not_le.mpr h (Int64.le_trans z this.2))
theorem fiR_val {t : Int64} {b : Bt} {c : Rc} (hb : BatOK b) (h : fiR t b = some c) : ∃ n, n < 2 ^ 41 ∧ baB b + rO c = lN n := by
  obtain ⟨la, hla, hlaB, hrec⟩ := Bat_rec hb
  obtain ⟨a, ha, ea⟩ := hb.2.2.2.2.2.1
  obtain ⟨o, ho, _, ho2⟩ := OfS_mem hrec.2.2.2.2 (List.mem_of_find?_eq_some h)
  exact ⟨a + o, by omega, by rw [ea, ho, lN_add]⟩
theorem lN_nm1 {n : Nat} (h : n < 2 ^ 63) : ¬ lN n = -1 := fun e => by
  have := congrArg Int64.toInt e
  rw [pk_lT h] at this
  have h2 : (-1 : Int64).toInt = -1 := rfl
  omega
theorem c_since {Y : Ly} {q : Nat → Nat → Nat} {nL W nB : Nat} {S : Nat → List Sg} {st en : Nat → Int64} {M : Mm} (hC : SC Y q nL W nB) (hR : SR q nL (mR M)) (hG : Geo nL W nB S) (hLC : LogC q nL W nB M st en S) (hD : DkA nL (mI M (q 0 11)) st en S) (hOK : LogOK nL S) {l : Nat} {t : Int64} {Kn : Int64 → Mm → Prop} (hl : l ≤ nL) (h : ∀ M', Fr q (F1 17) M M' → Kn (fiB t (BS (S l))) M') : f_X9_firstSince Y (q 0 13) (q (l + 1) 0) t M Kn := by
  have hd := sdims hC
  have hct := Geo_count hG hl
  have hPB := PS_len (S l)
  have n11 := sn_0_11 hC
  unfold f_X9_firstSince
  refine LOOP2_inv (fun x1 M2 => ∃ i, i ≤ (BS (S l)).length ∧ x1 = nI i ∧ fiB t (BS (S l)) = fiB t ((BS (S l)).drop i) ∧ Fr q (F1 17) M M2) (fun x1 _ => (BS (S l)).length - x1.toNatClampNeg) ?_ _ _ ⟨0, by omega, rfl, rfl, Fr_refl _ _ _⟩
  rintro x1 M2 again ⟨i, hi, rfl, he, F⟩ hag
  have hLC2 := LogC_fr hC hLC F (by simp [F1]) (fun l c => by simp [F1])
  have hR2 : SR q nL (mR M2) := by rw [F.2]; exact hR
  have hD2 : DkA nL (mI M2 (q 0 11)) st en S := by rw [Fr_I hC F (by simp [F1])]; exact hD
  unfold L_X9_firstSince_3
  refine ⟨sk_t_0 hC l hl, ?_⟩
  rw [(hLC2.2.2 l hl).2.1.2.1, nI_cmp (by omega) (by omega)]
  refine ⟨fun c => ?_, fun c => ?_⟩
  · have := h M2 F
    rwa [he, List.drop_eq_nil_of_le (by omega)] at this
  obtain ⟨p, hp⟩ := lt_some (show i < (PS (S l)).length by omega)
  obtain ⟨v1, v2, v3, v4⟩ := c_at (Y := Y) hG hLC2 hD2 hl hp
  obtain ⟨w1, w2⟩ := BS_at (W := W) (nB := nB) hOK hl hp
  have hdr : (BS (S l)).drop i = p.2 :: (BS (S l)).drop (i + 1) := by
    exact drop_s w1
  have nxt : ∀ M14, fiR t p.2 = none → Fr q (F1 17) M M14 → f_X9_firstSince_60 Y (nI i) again M14 := by
    intro M14 hn F14 x15 e15
    rw [nI_1] at e15
    subst e15
    refine hag _ _ ⟨i + 1, by omega, rfl, ?_, F14⟩ ?_
    · rw [he, hdr]; simp only [fiB, hn]
    · rw [nI_clamp (by omega), nI_clamp (by omega)]; omega
  have hin : vp_in (nI i) (yN Y (q (l + 1) 4)) := by rw [sn_t_4 hC l hl]; exact vp_in_nI (by omega) (by omega)
  refine ⟨sk_0_13 hC, _, sr_0_13_0 hR2, sk_0_10 hC, _, sr_0_10_0 hR2, _, sr_t_8 hR2 l hl, sk_t_4 hC l hl, hin, ?_⟩
  rw [nI_clamp (by omega), v1]
  refine s_greatestTimeOf (sk_0_11 hC) (by omega) (by omega) ?_
  rw [gt_fB v2 v4]
  refine ⟨fun c2 => nxt M2 (fiR_none w2 c2) F, fun c2 => ⟨_, sr_t_8 hR2 l hl, sk_t_4 hC l hl, hin, ?_⟩⟩
  rw [v1]
  refine c_sinceIn hC hR2 v2 v3 w2 (fun M' F' => ?_)
  cases hf : fiR t p.2 with
  | none => exact ⟨fun _ => nxt M' hf (Fr_trans F F'), fun z => absurd rfl z⟩
  | some r =>
    obtain ⟨n, hn, en⟩ := fiR_val w2 hf
    refine ⟨fun z => ?_, fun _ => ?_⟩
    · rw [show (baB p.2 + rO r = -1) = (lN n = -1) from by rw [en]] at z
      exact absurd z (lN_nm1 (by omega))
    · have := h M' (Fr_trans F F')
      rw [he, hdr] at this
      simp only [fiB, hf] at this
      exact this
/-! sums over a log -/
def smJ {α : Type} (f : α → Int64) : List α → Int64
  | [] => 0
  | x :: xs => f x + smJ f xs
theorem smJ_s {α : Type} (f : α → Int64) : ∀ (xs : List α) (x : α), smJ f (xs ++ [x]) = smJ f xs + f x
  | [], x => by simp [smJ, Int64.zero_add, Int64.add_zero]
  | y :: xs, x => by simp only [List.cons_append, smJ, smJ_s f xs x, Int64.add_assoc]
theorem c_countRecs {Y : Ly} {q : Nat → Nat → Nat} {nL W nB : Nat} {S : Nat → List Sg} {st en : Nat → Int64} {M : Mm} (hC : SC Y q nL W nB) (hR : SR q nL (mR M)) (hG : Geo nL W nB S) (hLC : LogC q nL W nB M st en S) (hD : DkA nL (mI M (q 0 11)) st en S) {l : Nat} {Kn : Int64 → Mm → Prop} (hl : l ≤ nL) (h : Kn (smJ (fun b => (cntB b).toInt64) (BS (S l))) M) : f_X9_countRecords Y (q 0 13) (q (l + 1) 0) M Kn := by
  have hd := sdims hC
  have hct := Geo_count hG hl
  have hPB := PS_len (S l)
  have n11 := sn_0_11 hC
  unfold f_X9_countRecords
  refine LOOP3_inv (fun x1 x2 M3 => ∃ i, i ≤ (BS (S l)).length ∧ x2 = nI i ∧ x1 = smJ (fun b => (cntB b).toInt64) ((BS (S l)).take i) ∧ M3 = M) (fun _ x2 _ => (BS (S l)).length - x2.toNatClampNeg) ?_ _ _ _ ⟨0, by omega, rfl, rfl, rfl⟩
  rintro x1 x2 M3 again ⟨i, hi, rfl, rfl, rfl⟩ hag
  unfold L_X9_countRecords_5
  refine ⟨sk_t_0 hC l hl, ?_⟩
  rw [(hLC.2.2 l hl).2.1.2.1, nI_cmp (by omega) (by omega)]
  refine ⟨fun c => by rwa [List.take_of_length_le (by omega)], fun c => ?_⟩
  obtain ⟨p, hp⟩ := lt_some (show i < (PS (S l)).length by omega)
  obtain ⟨v1, v2, v3, v4⟩ := c_at (Y := Y) hG hLC hD hl hp
  have w1 : (BS (S l))[i]? = some p.2 := by rw [← PS_snd, List.getElem?_map, hp]; rfl
  refine ⟨sk_0_13 hC, _, sr_0_13_0 hR, sk_0_10 hC, _, sr_0_10_0 hR, _, sr_t_8 hR l hl, sk_t_4 hC l hl, by rw [sn_t_4 hC l hl]; exact vp_in_nI (by omega) (by omega), ?_⟩
  rw [nI_clamp (by omega), v1]
  refine s_countOf (sk_0_11 hC) (by omega) (by omega) (fun x15 e15 x16 e16 => ?_)
  rw [cnt_fB v2 v4] at e15
  rw [nI_1] at e16
  subst e15 e16
  refine hag _ _ _ ⟨i + 1, by omega, rfl, by rw [take_s w1, smJ_s], rfl⟩ ?_
  rw [nI_clamp (by omega), nI_clamp (by omega)]; omega
theorem c_countBytes {Y : Ly} {q : Nat → Nat → Nat} {nL W nB : Nat} {S : Nat → List Sg} {st en : Nat → Int64} {M : Mm} (hC : SC Y q nL W nB) (hR : SR q nL (mR M)) (hG : Geo nL W nB S) (hLC : LogC q nL W nB M st en S) (hD : DkA nL (mI M (q 0 11)) st en S) {l : Nat} {Kn : Int64 → Mm → Prop} (hl : l ≤ nL) (h : Kn (lN (szs (S l))) M) : f_X8_countBytes Y (q (l + 1) 0) M Kn := by
  have hd := sdims hC
  have hs := hG.1 l hl
  unfold f_X8_countBytes
  refine LOOP2_inv (fun x1 x2 => ∃ i, i ≤ (S l).length ∧ x2 = nI i ∧ x1 = lN (szs ((S l).take i))) (fun _ x2 => (S l).length - x2.toNatClampNeg) ?_ _ _ ⟨0, by omega, rfl, rfl⟩
  rintro x1 x2 again ⟨i, hi, rfl, rfl⟩ hag
  unfold L_X8_countBytes_4
  refine ⟨sk_t_0 hC l hl, ?_⟩
  rw [(hLC.2.2 l hl).2.1.1, nI_cmp (by omega) (by omega)]
  refine ⟨fun c => by rwa [List.take_of_length_le c], fun c => ?_⟩
  obtain ⟨s, hsx⟩ := lt_some (show i < (S l).length by omega)
  have hb := hs.2 s (List.mem_of_getElem? hsx)
  refine ⟨_, sr_t_5 hR l hl, sk_t_2 hC l hl, by rw [sn_t_2 hC l hl]; exact vp_in_nI (by omega) (by omega), fun x8 e8 x9 e9 => ?_⟩
  have hW : W * 1024 ≤ 16 * 1024 := Nat.mul_le_mul_right _ hd.2.2.2.1
  rw [nI_clamp (by omega), Ar_map (hLC.2.2 l hl).2.1.2.2.2.1 hsx, nI_l (by omega), lN_add] at e8
  rw [nI_1] at e9
  subst e8 e9
  refine hag _ _ ⟨i + 1, by omega, rfl, ?_⟩ ?_
  · rw [take_s hsx]; unfold szs; simp
  · rw [nI_clamp (by omega), nI_clamp (by omega)]; omega
