/-! a batch that stays is without fault -/
theorem RS_snoc {y : List Int32} {c : Rc} (hy : RF y c) (hl : y.length = rC c) : ∀ {rs : List Rc} {x : List Int32}, RS x rs → RS (x ++ y) (rs ++ [c])
  | [], x, h => by
    have e : x = [] := h
    subst e
    exact ⟨hy, List.drop_eq_nil_of_le (show y.length ≤ rC c by omega)⟩
  | d :: rs, x, h => by
    refine ⟨RF_more h.1 y, ?_⟩
    rw [List.drop_append_of_le_length (RF_dims h.1).1]
    exact RS_snoc hy hl h.2
theorem OfS_lo : ∀ {rs : List Rc} {lo lo' la : Nat}, OfS lo rs la → lo' ≤ lo → OfS lo' rs la
  | [], _, _, _, _, _ => trivial
  | c :: rs, lo, lo', la, h, hl => by
    obtain ⟨o, a, b, d, e⟩ := h
    exact ⟨o, a, by omega, d, e⟩
theorem OfS_sub : ∀ {rs rs' : List Rc} {lo la : Nat}, OfS lo rs la → rs'.Sublist rs → OfS lo rs' la
  | [], rs', lo, la, h, hs => by rw [List.sublist_nil.mp hs]; exact h
  | c :: rs, rs', lo, la, h, hs => by
    obtain ⟨o, a, b, d, e⟩ := h
    cases hs with
    | cons _ hs => exact OfS_lo (OfS_sub e hs) (by omega)
    | cons_cons _ hs => exact ⟨o, a, b, d, OfS_sub e hs⟩
theorem kst_rs {Q : KQ} {now : Int32} {p : Nat} {b : Bt} (hb : BatOK b) : ∀ k, k ≤ (rsB b).length → ∃ rs', rs'.length = (kst Q now p b k).2.1 ∧ RS (kst Q now p b k).1 rs' ∧ rs'.Sublist ((rsB b).take k) ∧ Bys (kst Q now p b k).1 ∧ ∀ c, c ∈ rs' → ftB b + rT c ≤ (kst Q now p b k).2.2
  | 0, _ => ⟨[], rfl, rfl, List.nil_sublist _, (fun _ h => by cases h), (fun _ h => by cases h)⟩
  | k + 1, hk => by
    obtain ⟨rs', e1, e2, e3, e4, e5⟩ := kst_rs (Q := Q) (now := now) (p := p) hb k (by omega)
    obtain ⟨la, hla, hlaB, hrec⟩ := Bat_rec hb
    obtain ⟨c, hc⟩ : ∃ c, (rsB b)[k]? = some c := ⟨_, List.getElem?_eq_getElem (by omega)⟩
    obtain ⟨r1, r2, r3⟩ := rp_at hrec.1 hb.1 hc
    by_cases z : gon Q now (ftB b) (rq b p k c) c
    · rw [kst_y hc z]
      exact ⟨rs', e1, e2, by rw [take_s hc]; exact e3.trans (List.sublist_append_left _ _), e4, e5⟩
    · rw [kst_n hc z]
      have rf := RF_pre r1 []
      rw [List.append_nil] at rf
      refine ⟨rs' ++ [c], by rw [List.length_append, List.length_singleton, e1], RS_snoc rf (by rw [List.length_take, List.length_drop]; omega) e2, by rw [take_s hc]; exact e3.append (List.Sublist.refl _), Bys_app e4 (Bys_take (Bys_drop hb.2.2.1 _) _), fun d hd => ?_⟩
      rw [List.mem_append, List.mem_singleton] at hd
      show ftB b + rT d ≤ if ftB b + rT c < (kst Q now p b k).2.2 then (kst Q now p b k).2.2 else ftB b + rT c
      by_cases w : ftB b + rT c < (kst Q now p b k).2.2
      · rw [if_pos w]
        rcases hd with hd | rfl
        · exact e5 d hd
        · exact Int64.le_of_lt w
      · rw [if_neg w]
        rcases hd with hd | rfl
        · exact Int64.le_trans (e5 d hd) (Int64.not_lt.mp w)
        · exact Int64.le_refl _
theorem ke_parts {b : Bt} (cnt : Int32) (gt : Int64) (body : List Int32) (h61 : 61 ≤ b.length) (hl : body.length < 2 ^ 29) : (∀ j, (j < 8 ∨ (21 ≤ j ∧ j < 35) ∨ (43 ≤ j ∧ j < 57)) → fB (keB b cnt gt body) j = fB b j) ∧ gtB (keB b cnt gt body) = gt ∧ cntB (keB b cnt gt body) = cnt ∧ (keB b cnt gt body).drop 61 = body ∧ b_sizeOf (fB (keB b cnt gt body)) 0 = nI (keB b cnt gt body).length ∧ b_true (fB (keB b cnt gt body)) 0 (keB b cnt gt body).length := by
  have hlen := keB_len cnt gt body h61
  have htl := keT_len cnt gt body h61
  have hL := fB_Lie (keB b cnt gt body)
  obtain ⟨ke, eke⟩ : ∃ ke, ke = keB b cnt gt body := ⟨_, rfl⟩
  rw [← eke] at hlen hL ⊢
  have hL0 : Lie (fB ke) 0 (keB b cnt gt body) := by rw [← eke]; exact hL
  have l8 : (b.take 8).length = 8 := by rw [List.length_take]; omega
  have l5 : ((b.drop 12).take 5).length = 5 := by rw [List.length_take, List.length_drop]; omega
  have l14 : ((b.drop 21).take 14).length = 14 := by rw [List.length_take, List.length_drop]; omega
  have m14 : ((b.drop 43).take 14).length = 14 := by rw [List.length_take, List.length_drop]; omega
  unfold keB finB at hL0
  simp only [Lie_app, pb_len, l8, l5, Nat.reduceAdd] at hL0
  obtain ⟨h0, h8, h12, h17, h21⟩ := hL0
  have hT := h21
  unfold keT at h21
  simp only [Lie_app, pb_len, l14, m14, Nat.reduceAdd] at h21
  obtain ⟨p21, p35, p43, p57, p61⟩ := h21
  have gd : ∀ i n j, j < n → ((b.drop i).take n).getD j 0 = fB b (i + j) := by
    intro i n j hj
    unfold fB
    rw [List.getD_eq_getElem?_getD, List.getD_eq_getElem?_getD, List.getElem?_take_of_lt hj, List.getElem?_drop]
  refine ⟨fun j hj => ?_, ?_, ?_, ?_, ?_, ?_⟩
  · rcases hj with hj | hj | hj
    · have := Lie_get h0 (j := j) (by omega)
      rw [Nat.zero_add] at this
      rw [this]
      have g := gd 0 8 j hj
      rw [List.drop_zero, Nat.zero_add] at g; exact g
    · have := Lie_get p21 (j := j - 21) (by omega)
      rw [show 21 + (j - 21) = j by omega, gd 21 14 _ (by omega), show 21 + (j - 21) = j by omega] at this
      exact this
    · have := Lie_get p43 (j := j - 43) (by omega)
      rw [show 43 + (j - 43) = j by omega, gd 43 14 _ (by omega), show 43 + (j - 43) = j by omega] at this
      exact this
  · unfold gtB; exact beS_pb8 p35
  · unfold cntB b_countOf; rw [Nat.zero_add, beS_pb4 p57]; simp
  · rw [eke]
    unfold keB finB keT
    have e : ∀ (a1 a2 a3 a4 a5 a6 a7 a8 : List Int32), a1 ++ (a2 ++ (a3 ++ (a4 ++ (a5 ++ (a6 ++ (a7 ++ (a8 ++ body))))))) = (a1 ++ (a2 ++ (a3 ++ (a4 ++ (a5 ++ (a6 ++ (a7 ++ a8))))))) ++ body := by intros; simp [List.append_assoc]
    rw [e]
    exact List.drop_left' (by simp only [List.length_append, pb_len, l8, l5, l14, m14])
  · unfold b_sizeOf
    rw [hlen, Nat.zero_add, beS_pb4N h8 (by omega), lN_i, show (12 : Int32) = nI 12 from rfl, nI_add, htl]; congr 1; omega
  · unfold b_true
    rw [hlen, Nat.zero_add, beS_pb4 h17]
    have e2 : ckC (fB ke) (0 + 21) (61 + body.length - 21) ^^^ (-1) = ckv (keT b cnt gt body) := by
      unfold ckv
      rw [show 61 + body.length - 21 = (keT b cnt gt body).length by omega, ckC_congr (g := fB (keT b cnt gt body)) (a' := 0) (fun j hj => by
        rw [Nat.zero_add, Nat.zero_add]; exact Lie_fB hT j hj)]
    rw [e2]
    simp
theorem kbt_ok {Q : KQ} {now : Int32} {p : Nat} {b : Bt} (hb : BatOK b) : BatOK (kbt Q now p b) ∧ baB (kbt Q now p b) = baB b ∧ laB (kbt Q now p b) = laB b ∧ prB (kbt Q now p b) = prB b ∧ (kbt Q now p b).drop 61 = (kst Q now p b (rsB b).length).1 := by
  have hkl := kbt_len (Q := Q) (now := now) (p := p) hb
  obtain ⟨la, hla, hlaB, hrec⟩ := Bat_rec hb
  have hrl := hrec.2.2.1
  obtain ⟨rs', e1, e2, e3, e4, e5⟩ := kst_rs (Q := Q) (now := now) (p := p) hb _ (Nat.le_refl _)
  rw [List.take_of_length_le (Nat.le_refl _)] at e3
  have hle := e3.length_le
  have h16 := hb.2.1
  obtain ⟨k1, k2, k3, k4, k5, k6⟩ := ke_parts (b := b) (nI (kst Q now p b (rsB b).length).2.1) (kgt Q now p b) (kst Q now p b (rsB b).length).1 hb.1 (by omega)
  have hkb : keB b (nI (kst Q now p b (rsB b).length).2.1) (kgt Q now p b) (kst Q now p b (rsB b).length).1 = kbt Q now p b := rfl
  rw [hkb] at k1 k2 k3 k4 k5 k6
  have f : ∀ i n, (i + n ≤ 8 ∨ (21 ≤ i ∧ i + n ≤ 35) ∨ (43 ≤ i ∧ i + n ≤ 57)) → beS (fB (kbt Q now p b)) i n = beS (fB b) i n := fun i n h => beS_congr (fun j hj => k1 _ (by omega))
  have eb : baB (kbt Q now p b) = baB b := f 0 8 (by omega)
  have el : laB (kbt Q now p b) = laB b := by unfold laB; rw [f 23 4 (by omega)]
  have ep : prB (kbt Q now p b) = prB b := f 43 8 (by omega)
  have es : sqB (kbt Q now p b) = sqB b := by unfold sqB; rw [f 53 4 (by omega)]
  have ef : ftB (kbt Q now p b) = ftB b := f 27 8 (by omega)
  refine ⟨⟨by omega, by omega, ?_, k5, k6, by rw [eb]; exact hb.2.2.2.2.2.1, by rw [ep, es]; exact hb.2.2.2.2.2.2.1, la, rs', hla, by rw [el]; exact hlaB, ?_⟩, eb, el, ep, k4⟩
  · unfold kbt keB finB keT
    have hB := hb.2.2.1
    exact Bys_app (Bys_take hB _) (Bys_app (pb_By _ _) (Bys_app (Bys_take (Bys_drop hB _) _) (Bys_app (pb_By _ _) (Bys_app (Bys_take (Bys_drop hB _) _) (Bys_app (pb_By _ _) (Bys_app (Bys_take (Bys_drop hB _) _) (Bys_app (pb_By _ _) e4)))))))
  · refine ⟨by rw [k4]; exact e2, by rw [k3, e1], by omega, fun c hc => ?_, OfS_sub hrec.2.2.2.2 e3⟩
    rw [ef, k2]
    have hcm : c ∈ rsB b := e3.subset hc
    refine ⟨(hrec.2.2.2.1 c hcm).1, ?_⟩
    have hne : ¬ (kst Q now p b (rsB b).length).2.1 = 0 := by
      rw [← e1]
      intro z
      rw [List.length_eq_zero_iff.mp z] at hc; cases hc
    unfold kgt
    rw [if_neg hne]
    exact e5 c hc
