/-! the head of a log -/
def segL (S : List Sg) : List Int32 := S.flatMap (fun s => pb (lN s.1) 4 ++ pb (lN (sz s)) 4)
def hdH (st en : Int64) (n : Nat) (T : List Sg) : List Int32 := pb st 8 ++ pb en 8 ++ pb (lN n) 4 ++ segL T
def hdL (st en : Int64) (S : List Sg) : List Int32 := hdH st en S.length S ++ List.replicate (480 - 8 * S.length) 0
theorem segL_len (S : List Sg) : (segL S).length = 8 * S.length := by
  unfold segL
  induction S with
  | nil => rfl
  | cons s S ih => simp only [List.flatMap_cons, List.length_append, pb_len, ih, List.length_cons]; omega
theorem hdH_len (st en : Int64) (n : Nat) (T : List Sg) : (hdH st en n T).length = 20 + 8 * T.length := by
  unfold hdH
  simp only [List.length_append, pb_len, segL_len]
theorem hdH_s (st en : Int64) (n : Nat) (T : List Sg) (g : Sg) : hdH st en n (T ++ [g]) = hdH st en n T ++ (pb (lN g.1) 4 ++ pb (lN (sz g)) 4) := by
  unfold hdH segL
  rw [List.flatMap_append, List.flatMap_cons, List.flatMap_nil, List.append_nil, List.append_assoc, List.append_assoc, List.append_assoc, List.append_assoc, List.append_assoc]
theorem hdL_len (st en : Int64) {S : List Sg} (h : S.length ≤ 60) : (hdL st en S).length = 500 := by
  unfold hdL
  rw [List.length_append, hdH_len, List.length_replicate]; omega
theorem some_lt {α : Type} {xs : List α} {i : Nat} {x : α} (h : xs[i]? = some x) : i < xs.length := by
  apply Classical.byContradiction
  intro hc
  rw [List.getElem?_eq_none (by omega)] at h
  cases h
theorem lt_some {α : Type} {xs : List α} {i : Nat} (h : i < xs.length) : ∃ x, xs[i]? = some x := ⟨xs[i], List.getElem?_eq_getElem h⟩
theorem take_s {α : Type} {xs : List α} {i : Nat} {x : α} (h : xs[i]? = some x) : xs.take (i + 1) = xs.take i ++ [x] := by
  rw [List.take_add_one, h]; rfl
theorem Lie_rep {f : Nat → Int32} {n a : Nat} (h : ∀ j, a ≤ j → j < a + n → f j = 0) : Lie f a (List.replicate n 0) :=
  Lie_of (fun j hj => by
    rw [List.length_replicate] at hj
    rw [h (a + j) (by omega) (by omega)]
    simp [List.getD, hj])
theorem c_fillHead {Y : Ly} {q : Nat → Nat → Nat} {nL W nB l : Nat} {S : List Sg} {M : Mm} {Kn : Mm → Prop} (hC : SC Y q nL W nB) (hR : SR q nL (mR M)) (hl : l ≤ nL) (hT : TabM q l M S) (hS : S.length ≤ 60) (hB : ∀ s, s ∈ S → s.1 < 2 ^ 20 ∧ sz s < 2 ^ 30)
    (h : ∀ F, Lie F 0 (hdL (mJ M (q (l + 1) 0) 1) (mJ M (q (l + 1) 0) 2) S) → Kn (sI M (q 0 16) F)) : f_X9_fillHeadRow Y (q 0 13) (q (l + 1) 0) M Kn := by
  obtain ⟨t3, t7, tb, tz, th, ta⟩ := hT
  have hN := sn_0_16 hC
  obtain ⟨Z, hZ⟩ : ∃ Z, Z = fillR (mI M (q 0 16)) 0 (0 : Int32) 500 := ⟨_, rfl⟩
  have hZ0 : ∀ j, j < 500 → Z j = 0 := fun j hj => by rw [hZ, fillR_at, if_pos (by omega)]
  have no : ∀ (F : Nat → Int32) (c : Nat), mI (sI M (q 0 16) F) (q (l + 1) c) = mI M (q (l + 1) c) := fun F c => I_ne hC _ _ (by omega)
  unfold f_X9_fillHeadRow
  refine ⟨sk_0_13 hC, _, sr_0_13_5 hR, s_fillAll (sk_0_16 hC) (by omega) ?_⟩
  rw [hN, byte0, ← hZ]
  simp only [mR_sI, mJ_sI]
  refine ⟨_, sr_0_13_5 hR, sk_t_0 hC l hl, w_put (a := 0) (n := 8) (sk_0_16 hC) (by omega) (by omega) ?_⟩
  rw [mI_sI_self, sI_sI]
  simp only [mR_sI, mJ_sI]
  refine ⟨_, sr_0_13_5 hR, w_put (a := 8) (n := 8) (sk_0_16 hC) (by omega) (by omega) ?_⟩
  rw [mI_sI_self, sI_sI]
  simp only [mR_sI, mJ_sI]
  refine ⟨_, sr_0_13_5 hR, w_put (a := 16) (n := 4) (sk_0_16 hC) (by omega) (by omega) ?_⟩
  rw [mI_sI_self, sI_sI, no, t3, nI_l (by omega)]
  have e0 : wr (wr (wr Z 0 (pb (mJ M (q (l + 1) 0) 1) 8)) 8 (pb (mJ M (q (l + 1) 0) 2) 8)) 16 (pb (lN S.length) 4) = wr Z 0 (hdH (mJ M (q (l + 1) 0) 1) (mJ M (q (l + 1) 0) 2) S.length (S.take 0)) := by
    unfold hdH
    simp only [List.take_zero, segL, List.flatMap_nil, List.append_nil]
    rw [wr_app _ _ (pb (mJ M (q (l + 1) 0) 1) 8 ++ pb (mJ M (q (l + 1) 0) 2) 8), wr_app, List.length_append, pb_len, pb_len]
  rw [e0]
  refine LOOP2_inv (fun x11 M12 => ∃ i, i ≤ S.length ∧ x11 = nI i ∧ M12 = sI M (q 0 16) (wr Z 0 (hdH (mJ M (q (l + 1) 0) 1) (mJ M (q (l + 1) 0) 2) S.length (S.take i)))) (fun x11 _ => S.length - x11.toNatClampNeg) ?_ 0 _ ⟨0, by omega, rfl, rfl⟩
  rintro x11 M12 again ⟨i, hi, rfl, rfl⟩ hag
  unfold L_X9_fillHeadRow_54
  rw [no, t3, nI_cmp (by omega) (by omega)]
  refine ⟨fun c => ?_, fun c => ?_⟩
  · rw [List.take_of_length_le c]
    refine h _ ?_
    unfold hdL
    rw [Lie_app]
    refine ⟨wr_Lie _ _ _, Lie_rep (fun j h1 h2 => ?_)⟩
    rw [hdH_len] at h1 h2
    rw [wr_out _ _ _ _ (by rw [hdH_len]; omega), hZ0 j (by omega)]
  · obtain ⟨g, hg⟩ := lt_some (show i < S.length by omega)
    have hgm : g ∈ S := List.mem_of_getElem? hg
    have hb := hB g hgm
    simp only [mR_sI]
    refine ⟨_, sr_0_13_5 hR, _, sr_t_4 hR l hl, sk_t_1 hC l hl, by rw [sn_t_1 hC l hl]; exact vp_in_nI (by omega) (by decide), ?_⟩
    rw [no, nI_clamp (by omega), Ar_at tb (x := g.1) (by rw [List.getElem?_map, hg]; rfl), nI_l (by omega), show (20 : Int32) + 8 * nI i = nI (20 + 8 * i) from by rw [show (8 : Int32) = nI 8 from rfl, pk_mul, show (20 : Int32) = nI 20 from rfl, nI_add]]
    refine w_put (n := 4) (sk_0_16 hC) (by omega) (by omega) ?_
    rw [mI_sI_self, sI_sI]
    simp only [mR_sI]
    refine ⟨_, sr_0_13_5 hR, _, sr_t_5 hR l hl, sk_t_2 hC l hl, by rw [sn_t_2 hC l hl]; exact vp_in_nI (by omega) (by decide), ?_⟩
    rw [no, Ar_at tz (x := sz g) (by rw [List.getElem?_map, hg]; rfl), nI_l (by omega), show (24 : Int32) + 8 * nI i = nI (24 + 8 * i) from by rw [show (8 : Int32) = nI 8 from rfl, pk_mul, show (24 : Int32) = nI 24 from rfl, nI_add]]
    refine w_put (n := 4) (sk_0_16 hC) (by omega) (by omega) ?_
    rw [mI_sI_self, sI_sI]
    intro x24 e24
    rw [nI_1] at e24
    subst e24
    refine hag _ _ ⟨i + 1, by omega, rfl, ?_⟩ ?_
    · congr 1
      rw [take_s hg, hdH_s]
      have l1 := hdH_len (mJ M (q (l + 1) 0) 1) (mJ M (q (l + 1) 0) 2) S.length (S.take i)
      rw [List.length_take, Nat.min_eq_left hi] at l1
      rw [wr_app _ _ (hdH (mJ M (q (l + 1) 0) 1) (mJ M (q (l + 1) 0) 2) S.length (S.take i)), wr_app _ _ (pb (lN g.1) 4), l1, pb_len, Nat.zero_add, show 20 + 8 * i + 4 = 24 + 8 * i from by omega]
    · rw [nI_clamp (by omega), nI_clamp (by omega)]; omega
