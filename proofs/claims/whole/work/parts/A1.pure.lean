/-! the logs, read from the disk -/
theorem seg_at {f : Nat → Int32} : ∀ {S : List Sg} {a i : Nat} {s : Sg}, Lie f a (segL S) → S[i]? = some s → Lie f (a + 8 * i) (pb (lN s.1) 4) ∧ Lie f (a + 8 * i + 4) (pb (lN (sz s)) 4)
  | [], _, _, _, _, h => by simp at h
  | t :: S, a, 0, s, h, hs => by
    simp only [List.getElem?_cons_zero, Option.some.injEq] at hs
    subst hs
    have e : segL (t :: S) = (pb (lN t.1) 4 ++ pb (lN (sz t)) 4) ++ segL S := rfl
    rw [e] at h
    have := (Lie_app.mp (Lie_app.mp h).1)
    rw [pb_len] at this
    exact ⟨this.1, this.2⟩
  | t :: S, a, i + 1, s, h, hs => by
    simp only [List.getElem?_cons_succ] at hs
    have e : segL (t :: S) = (pb (lN t.1) 4 ++ pb (lN (sz t)) 4) ++ segL S := rfl
    rw [e] at h
    have h2 := (Lie_app.mp h).2
    rw [List.length_append, pb_len, pb_len] at h2
    have := seg_at h2 hs
    rw [show a + 8 * (i + 1) = a + (4 + 4) + 8 * i by omega]
    exact this
theorem hd_at {f : Nat → Int32} {p : Nat} {st en : Int64} {S : List Sg} (h : Lie f p (hdL st en S)) : Lie f p (pb st 8) ∧ Lie f (p + 8) (pb en 8) ∧ Lie f (p + 16) (pb (lN S.length) 4) ∧ Lie f (p + 20) (segL S) := by
  unfold hdL hdH at h
  simp only [Lie_app, pb_len, List.length_append] at h
  exact ⟨h.1.1.1.1, h.1.1.1.2, h.1.1.2, h.1.2⟩
theorem tot_take {bs : List Bt} {i : Nat} {b : Bt} (h : bs[i]? = some b) : tot (bs.take (i + 1)) = tot (bs.take i) + b.length := by rw [take_s h, tot_s]
theorem pbs_at {bs : List Bt} {a i : Nat} {b : Bt} (h : bs[i]? = some b) : (a + tot (bs.take i), b) ∈ pbs a bs := by
  have e : bs = bs.take i ++ (b :: bs.drop (i + 1)) := by rw [← drop_s h, List.take_append_drop]
  have : (a + tot (bs.take i), b) ∈ pbs a (bs.take i ++ (b :: bs.drop (i + 1))) := by
    rw [pbs_app]
    exact List.mem_append_right _ List.mem_cons_self
  rwa [← e] at this
theorem tot_mono (bs : List Bt) (i : Nat) : tot (bs.take i) ≤ tot bs := by
  have e : tot bs = tot (bs.take i) + tot (bs.drop i) := by
    unfold tot
    rw [← List.sum_append, ← List.map_append, List.take_append_drop]
  omega
set_option maxRecDepth 20000 in
theorem c_loadSeg {Y : Ly} {q : Nat → Nat → Nat} {nL W nB : Nat} {M : Mm} {l k : Nat} {S0 : List Sg} {bs : List Bt} {Kn : Mm → Prop} (hC : SC Y q nL W nB) (hR : SR q nL (mR M)) (hl : l ≤ nL) (hT : TabM q l M (S0 ++ [(k, [])])) (hS : S0.length < 60) (hP : (PS (S0 ++ [(k, bs)])).length * 61 ≤ nB * 1024) (hk : k * 1024 + tot bs ≤ nB * 1024) (hD : ∀ p, p ∈ pbs (k * 1024) bs → Lie (mI M (q 0 11)) p.1 p.2) (hOK : ∀ b, b ∈ bs → BatOK b)
    (h : ∀ M', Fr q (fun a _ => a = l + 1) M M' → mJ M' = mJ M → mI M' (q (l + 1) 0) 0 = mI M (q (l + 1) 0) 0 → TabM q l M' (S0 ++ [(k, bs)]) → Kn M') : f_X9_loadSegment Y (q 0 13) (q (l + 1) 0) (nI (tot bs)) M Kn := by
  have hd := sdims hC
  have n11 := sn_0_11 hC
  unfold f_X9_loadSegment
  have t3 : mI M (q (l + 1) 0) 3 - 1 = nI S0.length := by rw [hT.1, List.length_append]; exact nI_pred _
  have tb : mI M (q (l + 1) 1) S0.length = nI k := by
    have := hT.2.2.1
    rw [List.map_append] at this
    have := Ar_last this
    rwa [List.length_map] at this
  refine ⟨sk_t_0 hC l hl, _, sr_t_4 hR l hl, sk_t_1 hC l hl, ?_⟩
  rw [t3, nI_clamp (by omega), tb]
  refine ⟨by rw [sn_t_1 hC l hl]; exact vp_in_nI hS (by decide), fun x5 e5 => ?_⟩
  rw [show (1024 : Int32) = nI 1024 from rfl, pk_mul] at e5
  subst e5
  refine LOOP2_inv (fun x6 M7 => ∃ i, i ≤ bs.length ∧ x6 = nI (tot (bs.take i)) ∧ Fr q (fun a _ => a = l + 1) M M7 ∧ mJ M7 = mJ M ∧ mI M7 (q (l + 1) 0) 0 = mI M (q (l + 1) 0) 0 ∧ TabM q l M7 (S0 ++ [(k, bs.take i)])) (fun x6 _ => tot bs - x6.toNatClampNeg) ?_ _ _ ⟨0, by omega, rfl, Fr_refl _ _ _, rfl, rfl, hT⟩
  rintro x6 M7 again ⟨i, hi, rfl, F, J, h0, T⟩ hag
  have hR7 : SR q nL (mR M7) := by rw [F.2]; exact hR
  have hti := tot_mono bs i
  unfold L_X9_loadSegment_19 f_X9_loadSegment_75
  rw [nI_cmp (by omega) (by omega)]
  refine ⟨fun c => ?_, fun c => ?_⟩
  · have hib : bs.length ≤ i := by
      rcases Nat.lt_or_ge i bs.length with g | g
      · obtain ⟨b, hb⟩ := lt_some g
        have h1 := tot_take hb
        have h2 := tot_mono bs (i + 1)
        have := (hOK b (List.mem_of_getElem? hb)).1
        omega
      · exact g
    rw [List.take_of_length_le hib] at T
    exact h M7 F J h0 T
  · have hil : i < bs.length := by
      rcases Nat.lt_or_ge i bs.length with g | g
      · exact g
      · rw [List.take_of_length_le g] at c; omega
    obtain ⟨b, hb⟩ := lt_some hil
    have hbO := hOK b (List.mem_of_getElem? hb)
    have h1 := tot_take hb
    have h2 := tot_mono bs (i + 1)
    have hb61 := hbO.1
    have hLb : Lie (mI M (q 0 11)) (k * 1024 + tot (bs.take i)) b := hD _ (pbs_at hb)
    have e11 : mI M7 (q 0 11) = mI M (q 0 11) := Fr_I hC F (by omega)
    have hPi : (PS (S0 ++ [(k, bs.take i)])).length + 1 ≤ (PS (S0 ++ [(k, bs)])).length := by
      simp only [PS_app, PS_1, List.length_append, pbs_len, List.length_take]; omega
    refine ⟨_, sr_t_8 hR7 l hl, sk_t_4 hC l hl, ?_⟩
    rw [T.2.1, sn_t_4 hC l hl, nI_cmp (by omega) (by omega)]
    refine ⟨fun z => by omega, fun _ => ⟨sk_0_13 hC, _, sr_0_13_0 hR7, sk_0_10 hC, _, sr_0_10_0 hR7, ?_⟩⟩
    rw [nI_add]
    refine s_sizeOf (sk_0_11 hC) (by omega) (by omega) (fun x18 e18 => ?_)
    rw [e11, sz_B hLb hbO] at e18
    have e18' : x18 = nI b.length := by
      rw [e18]
      by_cases z : (61 : Int32) < nI b.length
      · rw [if_pos z]
      · rw [if_neg z]
        rw [show (61 : Int32) = nI 61 from rfl, nI_ltI (by omega) (by have := hbO.2.1; omega)] at z
        rw [show b.length = 61 by omega]; rfl
    clear e18
    subst e18'
    refine c_addBatch (b := b) hC hR7 hl T hS (by omega) (fun M' F' J' h0' T' x21 e21 => ?_)
    rw [nI_add, ← h1] at e21
    subst e21
    refine hag _ _ ⟨i + 1, by omega, rfl, Fr_trans F F', by rw [J', J], by rw [h0', h0], by rw [take_s hb]; exact T'⟩ ?_
    rw [nI_clamp (by omega), nI_clamp (by omega)]; omega
set_option maxRecDepth 20000 in
theorem c_loadTab {Y : Ly} {q : Nat → Nat → Nat} {nL W nB : Nat} {M : Mm} {S : Nat → List Sg} {st en : Nat → Int64} {l : Nat} {Kn : Mm → Prop} (hC : SC Y q nL W nB) (hR : SR q nL (mR M)) (hl : l ≤ nL) (hG : Geo nL W nB S) (hOK : LogOK nL S) (hD : DkA nL (mI M (q 0 11)) st en S) (h0 : mI M (q (l + 1) 0) 0 = nI (l + 1))
    (h : ∀ M', Fr q (fun a _ => a = l + 1) M M' → mI M' (q (l + 1) 0) 0 = nI (l + 1) → TabM q l M' (S l) → mJ M' (q (l + 1) 0) 1 = st l → mJ M' (q (l + 1) 0) 2 = en l → Kn M') : f_X9_loadTable Y (q 0 13) (q (l + 1) 0) M Kn := by
  have hd := sdims hC
  have n11 := sn_0_11 hC
  have hGl := hG.1 l hl
  have hct := Geo_count hG hl
  obtain ⟨d0, d8, d16, d20⟩ := hd_at (hD l hl).1
  unfold f_X9_loadTable f_X8_clear
  refine ⟨sk_t_0 hC l hl, fun x2 e2 => ⟨sk_t_0 hC l hl, fun Ma ea M3 e3 => ⟨sk_0_13 hC, ?_⟩⟩⟩
  rw [h0, show (1024 : Int32) = nI 1024 from rfl, pk_mul] at e2
  subst e2
  rw [ea, mI_sI_self, sI_sI] at e3
  have F3 : Fr q (fun a _ => a = l + 1) M M3 := Fr_e e3 rfl
  have R3 : SR q nL (mR M3) := by rw [F3.2]; exact hR
  have o3 : mI M3 (q 0 11) = mI M (q 0 11) := Fr_I hC F3 (by omega)
  have z3 : mI M3 (q (l + 1) 0) = m1 (m1 (mI M (q (l + 1) 0)) 3 0) 7 0 := by rw [e3, mI_sI_self]
  have J3 : mJ M3 = mJ M := by rw [e3]; rfl
  have nb : (l + 1) * 1024 + 500 ≤ nB * 1024 := by omega
  refine ⟨_, sr_0_13_0 R3, sk_0_10 hC, _, sr_0_10_0 R3, s_signed (n := 8) (sk_0_11 hC) (by omega) (by omega) (fun M10 e10 => ?_)⟩
  rw [o3, beS_pb8 d0] at e10
  have I10 : ∀ x, mI M10 x = mI M3 x := fun x => by rw [e10]; rfl
  have R10 : SR q nL (mR M10) := by rw [e10]; exact R3
  refine ⟨_, sr_0_13_0 R10, sk_0_10 hC, _, sr_0_10_0 R10, ?_⟩
  rw [show nI ((l + 1) * 1024) + 8 = nI ((l + 1) * 1024 + 8) from nI_add _ 8, show nI ((l + 1) * 1024) + 16 = nI ((l + 1) * 1024 + 16) from nI_add _ 16]
  refine s_signed (n := 8) (sk_0_11 hC) (by omega) (by omega) (fun M16 e16 => ?_)
  rw [I10, o3, beS_pb8 d8] at e16
  have I16 : ∀ x, mI M16 x = mI M3 x := fun x => by rw [e16]; exact I10 x
  have R16 : SR q nL (mR M16) := by rw [e16]; exact R10
  refine ⟨_, sr_0_13_0 R16, sk_0_10 hC, _, sr_0_10_0 R16, s_signed (n := 4) (sk_0_11 hC) (by omega) (by omega) (fun x22 e22 => ?_)⟩
  rw [I16, o3, beS_pb4N d16 (by omega), lN_i] at e22
  have e22' : x22 = nI (S l).length := by
    rw [e22, if_neg]
    rw [show (60 : Int32) = nI 60 from rfl, nI_ltI (by omega) (by omega)]; omega
  clear e22
  subst e22'
  have F16 : Fr q (fun a _ => a = l + 1) M M16 := Fr_trans F3 (Fr_trans (Fr_eJ e10 rfl) (Fr_eJ e16 rfl))
  have J16 : mJ M16 (q (l + 1) 0) = m1 (m1 (mJ M (q (l + 1) 0)) 1 (st l)) 2 (en l) := by rw [e16, mJ_sJ_self, e10, mJ_sJ_self, J3]
  have T16 : TabM q l M16 [] := by
    refine ⟨?_, ?_, Ar_nil _, Ar_nil _, Ar_nil _, Ar_nil _⟩
    · rw [I16, z3]; simp [m1]; rfl
    · rw [I16, z3]; simp [m1]; rfl
  have h016 : mI M16 (q (l + 1) 0) 0 = nI (l + 1) := by rw [I16, z3]; simp [m1, h0]
  refine LOOP2_inv (fun x23 M24 => ∃ i, i ≤ (S l).length ∧ x23 = nI i ∧ Fr q (fun a _ => a = l + 1) M M24 ∧ mI M24 (q (l + 1) 0) 0 = nI (l + 1) ∧ TabM q l M24 ((S l).take i) ∧ mJ M24 (q (l + 1) 0) = mJ M16 (q (l + 1) 0)) (fun x23 _ => (S l).length - x23.toNatClampNeg) ?_ _ _ ⟨0, by omega, rfl, F16, h016, T16, rfl⟩
  rintro x23 M24 again ⟨i, hi, rfl, F, h0', T, J⟩ hag
  have hR24 : SR q nL (mR M24) := by rw [F.2]; exact hR
  have o24 : mI M24 (q 0 11) = mI M (q 0 11) := Fr_I hC F (by omega)
  unfold L_X9_loadTable_75
  rw [nI_cmp (by omega) (by omega)]
  refine ⟨fun c => ?_, fun c => ?_⟩
  · rw [List.take_of_length_le c] at T
    refine h M24 F h0' T ?_ ?_
    · rw [J, J16, m1_ne _ _ (by decide), m1_at]
    · rw [J, J16, m1_at]
  · obtain ⟨s, hs⟩ := lt_some (show i < (S l).length by omega)
    obtain ⟨p1, p2⟩ := seg_at d20 hs
    have hsg := hGl.2 s (List.mem_of_getElem? hs)
    have hszW : sz s ≤ W * 1024 := hsg.2.2.1
    have hW : W * 1024 ≤ 16 * 1024 := Nat.mul_le_mul_right _ hd.2.2.2.1
    have ea1 : nI ((l + 1) * 1024) + 20 + 8 * nI i = nI ((l + 1) * 1024 + 20 + 8 * i) := by
      rw [show (20 : Int32) = nI 20 from rfl, show (8 : Int32) = nI 8 from rfl, pk_mul, nI_add, nI_add]
    have ea2 : nI ((l + 1) * 1024) + 24 + 8 * nI i = nI ((l + 1) * 1024 + 20 + 8 * i + 4) := by
      rw [show (24 : Int32) = nI 24 from rfl, show (8 : Int32) = nI 8 from rfl, pk_mul, nI_add, nI_add]; congr 1; omega
    refine ⟨_, sr_0_13_0 hR24, sk_0_10 hC, _, sr_0_10_0 hR24, ?_⟩
    rw [ea1]
    refine s_signed (n := 4) (sk_0_11 hC) (by omega) (by omega) ?_
    rw [o24, beS_pb4N p1 (by omega), lN_i]
    refine c_addSegment hC hR24 hl T (by rw [List.length_take]; omega) (fun M31 F31 J31 h31 T31 => ?_)
    have hR31 : SR q nL (mR M31) := by rw [F31.2]; exact hR24
    have o31 : mI M31 (q 0 11) = mI M (q 0 11) := by rw [Fr_I hC F31 (by omega)]; exact o24
    refine ⟨_, sr_0_13_0 hR31, sk_0_10 hC, _, sr_0_10_0 hR31, ?_⟩
    rw [ea2]
    refine s_signed (n := 4) (sk_0_11 hC) (by omega) (by omega) ?_
    rw [o31, beS_pb4N p2 (by omega), lN_i]
    have esz : sz s = tot s.2 := rfl
    have etk : (S l).take (i + 1) = (S l).take i ++ [(s.1, s.2)] := take_s hs
    have sub : ∀ p, p ∈ pbs (s.1 * 1024) s.2 → p ∈ PS (S l) := fun p hp => List.mem_flatMap.mpr ⟨s, List.mem_of_getElem? hs, hp⟩
    rw [esz]
    refine c_loadSeg hC hR31 hl T31 (by rw [List.length_take]; omega) ?_ (by rw [← esz]; omega) (fun p hp => by rw [o31]; exact (hD l hl).2 p (sub p hp)) (fun b hb => hOK l hl b (List.mem_flatMap.mpr ⟨s, List.mem_of_getElem? hs, hb⟩)) (fun M' F' J' h0'' T' x38 e38 => ?_)
    · rw [← etk]
      have : PS (S l) = PS ((S l).take (i + 1)) ++ PS ((S l).drop (i + 1)) := by rw [← PS_app, List.take_append_drop]
      rw [this, List.length_append] at hct
      omega
    · rw [nI_1] at e38
      subst e38
      refine hag _ _ ⟨i + 1, by omega, rfl, Fr_trans F (Fr_trans F31 F'), by rw [h0'', h31, h0'], by rw [etk]; exact T', by rw [J', J31, J]⟩ ?_
      rw [nI_clamp (by omega), nI_clamp (by omega)]; omega
theorem Lnk_len {nL : Nat} {S : Nat → List Sg} {B : List Bm} (h : Lnk nL S B) : B.length = sm (fun l => (BS (S l)).length) (nL + 1) := by
  have e : ∀ l, l < nL + 1 → (BS (S l)).length = (ofL l B).length := fun l hl => by
    rw [← mb_BS h (by omega)]; unfold mb; rw [List.length_map]
  rw [sm_congr e]
  have key : ∀ (B : List Bm), (∀ x, x ∈ B → mL x ≤ nL) → B.length = sm (fun l => (ofL l B).length) (nL + 1) := by
    intro B
    induction B with
    | nil =>
      intro _
      have : ∀ n, sm (fun l => (ofL l []).length) n = 0 := fun n => by
        induction n with
        | zero => rfl
        | succ n ih => simp only [sm, ih]; rfl
      rw [this]; rfl
    | cons x B ih =>
      intro hB
      have i1 := ih (fun y hy => hB y (List.mem_cons_of_mem _ hy))
      have e2 : ∀ l, l < nL + 1 → (ofL l (x :: B)).length = (ofL l B).length + (if mL x = l then 1 else 0) := by
        intro l _
        unfold ofL
        by_cases g : mL x = l
        · rw [List.filter_cons_of_pos (by rw [decide_eq_true_eq]; exact g), if_pos g]; rfl
        · rw [List.filter_cons_of_neg (by rw [decide_eq_true_eq]; exact g), if_neg g]; rfl
      rw [sm_congr e2, sm_add, ← i1, sm_ind (mL x) 1 (nL + 1), if_pos (by have := hB x List.mem_cons_self; omega)]; rfl
  exact key B h.1
set_option maxRecDepth 20000 in
theorem c_load {Y : Ly} {q : Nat → Nat → Nat} {nL W nB : Nat} {M : Mm} {S : Nat → List Sg} {st en : Nat → Int64} {Kn : Int32 → Mm → Prop} (hC : SC Y q nL W nB) (hR : SR q nL (mR M)) (hG : Geo nL W nB S) (hOK : LogOK nL S) (hLS : LogS q nL W M) (hD : DkA nL (mI M (q 0 11)) st en S)
    (h : ∀ M', Fr q (fun a _ => 1 ≤ a ∧ a ≤ nL + 1) M M' → LogC q nL W nB M' st en S → Kn (nI (sm (fun l => (BS (S l)).length) (nL + 1))) M') : f_X9_load Y (q 0 13) M Kn := by
  have hd := sdims hC
  unfold f_X9_load
  refine ⟨sk_0_13 hC, q 0 14, sr_0_13_1 hR, sk_0_14 hC, fun x4 e4 => ?_⟩
  rw [sn_0_14 hC] at e4
  subst e4
  refine LOOP3_inv (fun x5 x6 M7 => ∃ i, i ≤ nL + 1 ∧ x6 = nI i ∧ x5 = nI (sm (fun l => (BS (S l)).length) i) ∧ Fr q (fun a _ => 1 ≤ a ∧ a ≤ nL + 1) M M7 ∧ (∀ l, l ≤ nL → mI M7 (q (l + 1) 0) 0 = nI (l + 1)) ∧ ∀ l, l < i → TabM q l M7 (S l) ∧ mJ M7 (q (l + 1) 0) 1 = st l ∧ mJ M7 (q (l + 1) 0) 2 = en l) (fun _ x6 _ => nL + 1 - x6.toNatClampNeg) ?_ _ _ _ ⟨0, by omega, rfl, rfl, Fr_refl _ _ _, hLS.2.2, fun l hl => by omega⟩
  rintro x5 x6 M7 again ⟨i, hi, rfl, rfl, F, h0, hT⟩ hag
  have hR7 : SR q nL (mR M7) := by rw [F.2]; exact hR
  unfold L_X9_load_13
  rw [nI_cmp (by omega) (by omega)]
  have e13 : mI M7 (q 0 13) = mI M (q 0 13) := Fr_I hC F (by omega)
  refine ⟨fun c => ?_, fun c => ⟨by rw [sn_0_14 hC]; exact vp_in_nI (by omega) (by omega), q (i + 1) 0, by rw [nI_clamp (by omega)]; exact sr_0_14 hR7 i (by omega), ?_⟩⟩
  · rw [show i = nL + 1 by omega] at hT ⊢
    refine h M7 F ⟨by rw [e13]; exact hLS.1, by rw [e13]; exact hLS.2.1, fun l hl => ⟨h0 l hl, hT l (by omega)⟩⟩
  · refine c_loadTab hC hR7 (by omega) hG hOK (by rw [Fr_I hC F (by omega)]; exact hD) (h0 i (by omega)) (fun M' F' h0' T' J1 J2 => ⟨sk_t_0 hC i (by omega), fun x13 e13 x14 e14 => ?_⟩)
    rw [T'.2.1, nI_add, PS_len] at e13
    rw [nI_1] at e14
    subst e13 e14
    refine hag _ _ _ ⟨i + 1, by omega, rfl, rfl, Fr_trans F (Fr_mono F' (fun a b z => by omega)), fun l hl => ?_, fun l hl => ?_⟩ ?_
    · by_cases e : l = i
      · subst e; exact h0'
      · rw [Fr_I hC F' (by omega)]; exact h0 l hl
    · by_cases e : l = i
      · subst e; exact ⟨T', J1, J2⟩
      · obtain ⟨a, b, c⟩ := hT l (by omega)
        exact ⟨TabM_of a (fun c => Fr_I hC F' (by omega)), by rw [Fr_J hC F' (by omega)]; exact b, by rw [Fr_J hC F' (by omega)]; exact c⟩
    · rw [nI_clamp (by omega), nI_clamp (by omega)]; omega
