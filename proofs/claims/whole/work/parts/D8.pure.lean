/-! a batch with fewer records -/
def finB (X Z T : List Int32) : List Int32 := X ++ (pb (lN (9 + T.length)) 4 ++ (Z ++ (pb (ckv T).toInt64 4 ++ T)))
theorem fin_form2 {f : Nat → Int32} {a : Nat} {X Z T : List Int32} (hl : T.length < 2 ^ 30) (hX : X.length = 8) (hZ : Z.length = 5) (hT : Lie f (a + 21) T) (h0 : Lie f a X) (h12 : Lie f (a + 12) Z) : Lie (w_finish f a (21 + T.length)) a (finB X Z T) ∧ ∀ j, (j < a + 8 ∨ a + 21 ≤ j) → w_finish f a (21 + T.length) j = f j := by
  unfold w_finish
  rw [putB_full, putB_full]
  have e12 : (nI (21 + T.length) - 12).toInt64 = lN (9 + T.length) := by
    rw [show (12 : Int32) = nI 12 from rfl, pk_sub (by omega), nI_l (by omega)]; congr 1; omega
  have out : ∀ j, (j < a + 8 ∨ a + 21 ≤ j) → wr (wr f (a + 8) (pb (nI (21 + T.length) - 12).toInt64 4)) (a + 17) (pb (ckC (wr f (a + 8) (pb (nI (21 + T.length) - 12).toInt64 4)) (a + 21) (21 + T.length - 21) ^^^ (-1)).toInt64 4) j = f j := by
    intro j hj
    rw [wr_out _ _ _ _ (by rw [pb_len]; omega), wr_out _ _ _ _ (by rw [pb_len]; omega)]
  refine ⟨?_, out⟩
  have ec : ckC (wr f (a + 8) (pb (nI (21 + T.length) - 12).toInt64 4)) (a + 21) (21 + T.length - 21) ^^^ (-1) = ckv T := by
    unfold ckv
    rw [show 21 + T.length - 21 = T.length by omega, ckC_congr (g := fB T) (a' := 0) (fun j hj => by
      rw [wr_out _ _ _ _ (by rw [pb_len]; omega), Nat.zero_add]; exact Lie_fB hT j hj)]
  rw [e12] at ec out ⊢
  rw [ec] at out ⊢
  unfold finB
  refine Lie_app.mpr ⟨Lie_same h0 (fun j h1 h2 => out j (by omega)), Lie_app.mpr ⟨?_, Lie_app.mpr ⟨?_, Lie_app.mpr ⟨?_, ?_⟩⟩⟩⟩
  · rw [hX]
    exact wr_keep (wr_Lie _ _ _) (by rw [pb_len]; omega)
  · rw [hX, pb_len]
    refine Lie_same h12 (fun j h1 h2 => ?_)
    rw [wr_out _ _ _ _ (by rw [pb_len]; omega), wr_out _ _ _ _ (by rw [pb_len]; omega)]
  · rw [hX, pb_len, hZ]
    exact wr_Lie _ _ _
  · rw [hX, pb_len, hZ, pb_len]
    exact Lie_same hT (fun j h1 h2 => out j (by omega))
def keT (b : Bt) (cnt : Int32) (gt : Int64) (body : List Int32) : List Int32 := (b.drop 21).take 14 ++ (pb gt 8 ++ ((b.drop 43).take 14 ++ (pb cnt.toInt64 4 ++ body)))
def keB (b : Bt) (cnt : Int32) (gt : Int64) (body : List Int32) : Bt := finB (b.take 8) ((b.drop 12).take 5) (keT b cnt gt body)
theorem keT_len {b : Bt} (cnt : Int32) (gt : Int64) (body : List Int32) (h : 61 ≤ b.length) : (keT b cnt gt body).length = 40 + body.length := by
  unfold keT
  simp only [List.length_append, List.length_take, List.length_drop, pb_len]; omega
theorem keB_len {b : Bt} (cnt : Int32) (gt : Int64) (body : List Int32) (h : 61 ≤ b.length) : (keB b cnt gt body).length = 61 + body.length := by
  unfold keB finB
  simp only [List.length_append, List.length_take, List.length_drop, pb_len]
  rw [keT_len cnt gt body h]; omega
theorem ke_form {f : Nat → Int32} {a : Nat} {b : Bt} {body : List Int32} {cnt : Int32} {gt : Int64} (h61 : 61 ≤ b.length) (hl : body.length < 2 ^ 29) (hh : Lie f a (b.take 61)) (hb : Lie f (a + 61) body) :
    Lie (w_finish (w_recount f a cnt gt) a (61 + body.length)) a (keB b cnt gt body) ∧ ∀ j, (j < a ∨ a + 61 ≤ j) → w_finish (w_recount f a cnt gt) a (61 + body.length) j = f j := by
  have eF : w_recount f a cnt gt = wr (wr f (a + 35) (pb gt 8)) (a + 57) (pb cnt.toInt64 4) := by unfold w_recount; rw [putB_full, putB_full]
  obtain ⟨F, hF⟩ : ∃ F, F = w_recount f a cnt gt := ⟨_, rfl⟩
  rw [← hF] at eF ⊢
  have out : ∀ j, (j < a + 35 ∨ (a + 43 ≤ j ∧ j < a + 57) ∨ a + 61 ≤ j) → F j = f j := by
    intro j hj
    rw [eF, wr_out _ _ _ _ (by rw [pb_len]; omega), wr_out _ _ _ _ (by rw [pb_len]; omega)]
  have pc : ∀ i n, i + n ≤ 61 → Lie f (a + i) ((b.drop i).take n) := by
    intro i n hi
    have h1 := Lie_take (Lie_drop hh i (by rw [List.length_take]; omega)) n
    have e : ((b.take 61).drop i).take n = (b.drop i).take n := by
      rw [List.drop_take, List.take_take, Nat.min_eq_left (by omega)]
    rwa [e] at h1
  have T : Lie F (a + 21) (keT b cnt gt body) := by
    unfold keT
    have l14 : ((b.drop 21).take 14).length = 14 := by rw [List.length_take, List.length_drop]; omega
    have m14 : ((b.drop 43).take 14).length = 14 := by rw [List.length_take, List.length_drop]; omega
    refine Lie_app.mpr ⟨Lie_same (pc 21 14 (by decide)) (fun j h1 h2 => out j (by omega)), Lie_app.mpr ⟨?_, Lie_app.mpr ⟨?_, Lie_app.mpr ⟨?_, ?_⟩⟩⟩⟩
    · rw [l14, eF]
      exact wr_keep (wr_Lie _ _ _) (by rw [pb_len]; omega)
    · rw [l14, pb_len]
      exact Lie_same (pc 43 14 (by decide)) (fun j h1 h2 => out j (by omega))
    · rw [l14, pb_len, m14, eF]
      exact wr_Lie _ _ _
    · rw [l14, pb_len, m14, pb_len]
      exact Lie_same hb (fun j h1 h2 => out j (by omega))
  have X : Lie F a (b.take 8) := by
    have := pc 0 8 (by decide)
    rw [List.drop_zero, Nat.add_zero] at this
    have l8 : (b.take 8).length = 8 := by rw [List.length_take]; omega
    exact Lie_same this (fun j h1 h2 => out j (by omega))
  have Z : Lie F (a + 12) ((b.drop 12).take 5) := by
    have l5 : ((b.drop 12).take 5).length = 5 := by rw [List.length_take, List.length_drop]; omega
    exact Lie_same (pc 12 5 (by decide)) (fun j h1 h2 => out j (by omega))
  have ff := fin_form2 (f := F) (a := a) (by rw [keT_len cnt gt body h61]; omega) (by rw [List.length_take]; omega) (by rw [List.length_take, List.length_drop]; omega) T X Z
  rw [keT_len cnt gt body h61, show 21 + (40 + body.length) = 61 + body.length by omega] at ff
  refine ⟨ff.1, fun j hj => ?_⟩
  rw [ff.2 j (by omega), out j (by omega)]
