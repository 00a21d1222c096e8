/-! batches as they are written -/
theorem putB_full (f : Nat → Int32) (a n : Nat) (v : Int64) : putB f a n v n = wr f a (pb v n) := by
  rw [putB_wr f a n v n (Nat.le_refl _), List.take_of_length_le (by rw [pb_len]; exact Nat.le_refl _)]
def ckv (t : List Int32) : Int32 := ckC (fB t) 0 t.length ^^^ (-1)
/-- the head behind the checksum -/
def btH (la ft gt pr ep sq cnt : Int64) : List Int32 := pb 0 2 ++ (pb la 4 ++ (pb ft 8 ++ (pb gt 8 ++ (pb pr 8 ++ (pb ep 2 ++ (pb sq 4 ++ pb cnt 4))))))
/-- a batch of what lies behind its checksum -/
def btF (T : List Int32) : Bt := pb 0 8 ++ (pb (lN (9 + T.length)) 4 ++ (pb 0 4 ++ ([2] ++ (pb (ckv T).toInt64 4 ++ T))))
theorem btH_len (la ft gt pr ep sq cnt : Int64) : (btH la ft gt pr ep sq cnt).length = 40 := by simp [btH, pb_len]
theorem btF_len (T : List Int32) : (btF T).length = 21 + T.length := by simp [btF, pb_len]; omega
theorem m1_wr (f : Nat → Int32) (a : Nat) (x : Int32) : m1 f a x = wr f a [x] := rfl
theorem Lie_same {f g : Nat → Int32} {a : Nat} {bs : List Int32} (h : Lie f a bs) (e : ∀ j, a ≤ j → j < a + bs.length → g j = f j) : Lie g a bs := Lie_move h (fun j hj => e _ (by omega) (by omega))
theorem Lie_zero {f : Nat → Int32} {a n : Nat} (hn : n ≤ 8) (h : ∀ j, a ≤ j → j < a + n → f j = 0) : Lie f a (pb 0 n) := by
  rw [pb_0 n hn]; exact Lie_rep h
theorem fin_form {f : Nat → Int32} {a : Nat} {T : List Int32} (hl : T.length < 2 ^ 30) (hT : Lie f (a + 21) T) (h0 : Lie f a (pb 0 8)) (h12 : Lie f (a + 12) (pb 0 4 ++ [2])) : Lie (w_finish f a (21 + T.length)) a (btF T) ∧ ∀ j, (j < a + 8 ∨ a + 21 ≤ j) → w_finish f a (21 + T.length) j = f j := by
  unfold w_finish
  rw [putB_full, putB_full]
  have e12 : (nI (21 + T.length) - 12).toInt64 = lN (9 + T.length) := by
    rw [show (12 : Int32) = nI 12 from rfl, pk_sub (by omega), nI_l (by omega)]; congr 1; omega
  have out : ∀ j, (j < a + 8 ∨ a + 21 ≤ j) → wr (wr f (a + 8) (pb (nI (21 + T.length) - 12).toInt64 4)) (a + 17) (pb (ckC (wr f (a + 8) (pb (nI (21 + T.length) - 12).toInt64 4)) (a + 21) (21 + T.length - 21) ^^^ (-1)).toInt64 4) j = f j := by
    intro j hj
    rw [wr_out _ _ _ _ (by rw [pb_len]; omega), wr_out _ _ _ _ (by rw [pb_len]; omega)]
  refine ⟨?_, out⟩
  have ec : ckC (wr f (a + 8) (pb (nI (21 + T.length) - 12).toInt64 4)) (a + 21) (21 + T.length - 21) ^^^ (-1) = ckv T := by
    unfold ckv
    rw [show 21 + T.length - 21 = T.length by omega, ckC_congr (g := fB T) (a' := 0) (fun j hj => by
      rw [wr_out _ _ _ _ (by rw [pb_len]; omega), Nat.zero_add]; exact Lie_fB hT j hj)]
  rw [e12] at ec out ⊢
  rw [ec] at out ⊢
  unfold btF
  refine Lie_app.mpr ⟨Lie_same h0 (fun j h1 h2 => out j (by rw [pb_len] at h2; omega)), Lie_app.mpr ⟨?_, Lie_app.mpr ⟨?_, Lie_app.mpr ⟨?_, Lie_app.mpr ⟨?_, ?_⟩⟩⟩⟩⟩
  · rw [pb_len]
    exact wr_keep (wr_Lie _ _ _) (by rw [pb_len]; omega)
  · simp only [pb_len]
    refine Lie_same (Lie_app.mp h12).1 (fun j h1 h2 => ?_)
    rw [pb_len] at h2
    rw [wr_out _ _ _ _ (by rw [pb_len]; omega), wr_out _ _ _ _ (by rw [pb_len]; omega)]
  · simp only [pb_len]
    have := (Lie_app.mp h12).2
    rw [pb_len] at this
    refine Lie_same this (fun j h1 h2 => ?_)
    rw [List.length_singleton] at h2
    rw [wr_out _ _ _ _ (by rw [pb_len]; omega), wr_out _ _ _ _ (by rw [pb_len]; omega)]
  · simp only [pb_len, List.length_singleton]
    exact wr_Lie _ _ _
  · simp only [pb_len, List.length_singleton]
    exact Lie_same hT (fun j h1 h2 => out j (by omega))
/-- what begin and sign leave -/
theorem bs_form (f : Nat → Int32) (a : Nat) (cnt : Int32) (ft gt pr : Int64) (ep sq : Int32) : Lie (w_sign (w_begin f a cnt ft gt) a pr ep sq) (a + 21) (btH (cnt - 1).toInt64 ft gt pr ep.toInt64 sq.toInt64 cnt.toInt64) ∧ Lie (w_sign (w_begin f a cnt ft gt) a pr ep sq) a (pb 0 8) ∧ Lie (w_sign (w_begin f a cnt ft gt) a pr ep sq) (a + 12) (pb 0 4 ++ [2]) ∧ ∀ j, (j < a ∨ a + 61 ≤ j) → w_sign (w_begin f a cnt ft gt) a pr ep sq j = f j := by
  unfold w_sign w_begin
  simp only [putB_full, m1_wr]
  have z : ∀ j, a ≤ j → j < a + 61 → fillR f a 0 61 j = 0 := fun j h1 h2 => by rw [fillR_at, if_pos ⟨h1, h2⟩]
  refine ⟨?_, ?_, ?_, ?_⟩
  · unfold btH
    simp only [Lie_app, pb_len, Nat.add_assoc]
    refine ⟨?_, ?_, ?_, ?_, ?_, ?_, ?_, ?_⟩
    · refine Lie_zero (by omega) (fun j h1 h2 => ?_)
      iterate 8 rw [wr_out _ _ _ _ (by simp only [pb_len, List.length_singleton]; omega)]
      exact z j (by omega) (by omega)
    · iterate 6 refine wr_keep ?_ (by simp only [pb_len]; omega)
      exact wr_Lie _ _ _
    · iterate 5 refine wr_keep ?_ (by simp only [pb_len]; omega)
      exact wr_Lie _ _ _
    · iterate 4 refine wr_keep ?_ (by simp only [pb_len]; omega)
      exact wr_Lie _ _ _
    · iterate 2 refine wr_keep ?_ (by simp only [pb_len]; omega)
      exact wr_Lie _ _ _
    · iterate 1 refine wr_keep ?_ (by simp only [pb_len]; omega)
      exact wr_Lie _ _ _
    · exact wr_Lie _ _ _
    · iterate 3 refine wr_keep ?_ (by simp only [pb_len]; omega)
      exact wr_Lie _ _ _
  · refine Lie_zero (by omega) (fun j h1 h2 => ?_)
    iterate 8 rw [wr_out _ _ _ _ (by simp only [pb_len, List.length_singleton]; omega)]
    exact z j (by omega) (by omega)
  · simp only [Lie_app, pb_len, Nat.add_assoc]
    refine ⟨Lie_zero (by omega) (fun j h1 h2 => ?_), ?_⟩
    · iterate 8 rw [wr_out _ _ _ _ (by simp only [pb_len, List.length_singleton]; omega)]
      exact z j (by omega) (by omega)
    · iterate 7 refine wr_keep ?_ (by simp only [pb_len, List.length_singleton]; omega)
      exact wr_Lie _ _ _
  · intro j hj
    iterate 8 rw [wr_out _ _ _ _ (by simp only [pb_len, List.length_singleton]; omega)]
    rw [fillR_at, if_neg (by omega)]
/-! notes -/
def ntB (g o : Int32) (v : Int64) : List Int32 := vn 32 ++ (pb 0 3 ++ (vn 4 ++ ([g.toInt8.toInt32] ++ ([o.toInt8.toInt32] ++ (vn 16 ++ (pb v 8 ++ [0]))))))
theorem vn1 : vn 32 = [32] ∧ vn 4 = [4] ∧ vn 16 = [16] := by decide
theorem ntB_len (g o : Int32) (v : Int64) : (ntB g o v).length = 17 := by
  unfold ntB; rw [vn1.1, vn1.2.1, vn1.2.2]; simp [pb_len]
def noteB (g o : Int32) (tm : Nat) (v : Int64) : Bt := btF (btH 0 (lN tm) (lN tm) (-1) (-1) (-1) 1 ++ ntB g o v)
theorem noteB_len (g o : Int32) (tm : Nat) (v : Int64) : (noteB g o tm v).length = 78 := by
  unfold noteB; rw [btF_len, List.length_append, btH_len, ntB_len]
theorem By_0x : ∀ x : Int32, x = 0 ∨ x = 2 ∨ x = 4 ∨ x = 16 ∨ x = 32 → By x := by
  intro x h
  rcases h with rfl | rfl | rfl | rfl | rfl <;> rfl
theorem btF_By {T : List Int32} (h : Bys T) : Bys (btF T) := by
  unfold btF
  exact Bys_app (pb_By _ _) (Bys_app (pb_By _ _) (Bys_app (pb_By _ _) (Bys_app (Bys_1 (By_0x 2 (by simp))) (Bys_app (pb_By _ _) h))))
theorem btH_By (la ft gt pr ep sq cnt : Int64) : Bys (btH la ft gt pr ep sq cnt) := by
  unfold btH
  exact Bys_app (pb_By _ _) (Bys_app (pb_By _ _) (Bys_app (pb_By _ _) (Bys_app (pb_By _ _) (Bys_app (pb_By _ _) (Bys_app (pb_By _ _) (Bys_app (pb_By _ _) (pb_By _ _)))))))
theorem ntB_By (g o : Int32) (v : Int64) : Bys (ntB g o v) := by
  unfold ntB
  exact Bys_app (vnF_By _ _) (Bys_app (pb_By _ _) (Bys_app (vnF_By _ _) (Bys_app (Bys_1 (By_8 _)) (Bys_app (Bys_1 (By_8 _)) (Bys_app (vnF_By _ _) (Bys_app (pb_By _ _) (Bys_1 (By_0x 0 (by simp)))))))))
theorem noteB_By (g o : Int32) (tm : Nat) (v : Int64) : Bys (noteB g o tm v) := btF_By (Bys_app (btH_By _ _ _ _ _ _ _) (ntB_By _ _ _))
theorem By_88 (x : Int32) : x.toInt8.toInt32.toInt8.toInt32 = x.toInt8.toInt32 := By_8 x
theorem c_note {Y : Ly} {q : Nat → Nat → Nat} {nL W nB : Nat} {M : Mm} {g o : Int32} {v : Int64} {tm : Nat} {Kn : Nat → Mm → Prop} (hC : SC Y q nL W nB) (hR : SR q nL (mR M)) (htm : mI M (q 0 26) 0 = nI tm) (ht : tm < 2 ^ 31) (h : ∀ M', Fr q (F1 33) M M' → mJ M' = mJ M → Lie (mI M' (q 0 33)) 0 (noteB g o tm v) → Kn (q 0 33) M') : f_X7_filledNote Y (q 0 26) g o v M Kn := by
  have k := sk_0_33 hC
  have n := sn_0_33 hC
  obtain ⟨e1, e2, e3⟩ := vn1
  have l1 : (vn 32).length = 1 := by rw [e1]; rfl
  have l2 : (vn 4).length = 1 := by rw [e2]; rfl
  have l3 : (vn 16).length = 1 := by rw [e3]; rfl
  unfold f_X7_filledNote
  refine ⟨sk_0_26 hC, _, sr_0_26_8 hR, ?_⟩
  rw [htm]
  refine s_begin (a := 0) k (by omega) (by omega) ⟨_, sr_0_26_8 hR, s_sign (a := 0) k (by omega) (by omega) ⟨_, sr_0_26_8 hR, ?_⟩⟩
  refine w_putVarint (a := 61) (z := 32) (by right; decide) k (by rw [l1]; omega) (by omega) ⟨_, sr_0_26_8 hR, ?_⟩
  rw [l1]
  refine w_put (a := 62) (n := 3) k (by omega) (by omega) ⟨_, sr_0_26_8 hR, ?_⟩
  refine w_putVarint (a := 65) (z := 4) (by right; decide) k (by rw [l2]; omega) (by omega) ⟨_, sr_0_26_8 hR, k, by rw [n]; exact vp_in_nI (n := 66) (by decide) (by decide), fun M17 e17 => ⟨q 0 33, by rw [e17]; exact sr_0_26_8 hR, k, by rw [n]; exact vp_in_nI (n := 67) (by decide) (by decide), fun M21 e21 => ⟨q 0 33, by rw [e21, e17]; exact sr_0_26_8 hR, ?_⟩⟩⟩
  rw [e17] at e21
  clear e17
  refine w_putVarint (a := 68) (z := 16) (by right; decide) k (by rw [l3]; omega) (by omega) ⟨q 0 33, by rw [e21]; exact sr_0_26_8 hR, w_put (a := 69) (n := 8) k (by omega) (by omega) ⟨q 0 33, by rw [e21]; exact sr_0_26_8 hR, k, by rw [n]; exact vp_in_nI (n := 77) (by decide) (by decide), fun M30 e30 => ⟨q 0 33, by rw [e30, e21]; exact sr_0_26_8 hR, s_finish (a := 0) (n := 78) k (by omega) (by omega) (by omega) ⟨q 0 33, by rw [e30, e21]; exact sr_0_26_8 hR, ?_⟩⟩⟩⟩
  rw [e21] at e30
  clear e21
  simp only [mI_sI_self, sI_sI] at e30
  rw [show (66 : Int32).toNatClampNeg = 66 from rfl, show (67 : Int32).toNatClampNeg = 67 from rfl, show (77 : Int32).toNatClampNeg = 77 from rfl, By_88, By_88, byte0] at e30
  obtain ⟨F, hF⟩ : ∃ F, F = w_sign (w_begin (mI M (q 0 33)) 0 1 (nI tm).toInt64 (nI tm).toInt64) 0 (-1) (-1) (-1) := ⟨_, rfl⟩
  have e33 : mI M30 (q 0 33) = wr F 61 (ntB g o v) := by
    rw [e30, mI_sI_self, ← hF]
    unfold ntB
    rw [wr_app, wr_app, wr_app, wr_app, wr_app, wr_app, wr_app, l1, pb_len, l2, List.length_singleton, l3, pb_len]
    rfl
  have b4 := bs_form (mI M (q 0 33)) 0 1 (nI tm).toInt64 (nI tm).toInt64 (-1) (-1) (-1)
  rw [← hF] at b4
  have T : Lie (wr F 61 (ntB g o v)) (0 + 21) (btH 0 (lN tm) (lN tm) (-1) (-1) (-1) 1 ++ ntB g o v) := by
    refine Lie_app.mpr ⟨?_, ?_⟩
    · have := b4.1
      rw [nI_l ht] at this
      exact wr_keep this (by rw [btH_len]; omega)
    · rw [btH_len]; exact wr_Lie _ _ _
  have ff := fin_form (f := wr F 61 (ntB g o v)) (a := 0) (by rw [List.length_append, btH_len, ntB_len]; decide) T (wr_keep b4.2.1 (by rw [pb_len]; omega)) (wr_keep b4.2.2.1 (by simp [pb_len]))
  rw [List.length_append, btH_len, ntB_len] at ff
  refine h _ ?_ ?_ ?_
  · refine Fr_trans (Fr_e e30 ⟨rfl, rfl⟩) (Fr_sI _ _ _ _ ⟨rfl, rfl⟩)
  · rw [e30]; rfl
  · rw [mI_sI_self, e33]
    exact ff.1
