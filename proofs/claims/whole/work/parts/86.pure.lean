/-! the model's notes -/
theorem sum_ck {g : Nat → Int32} {a : Nat} {T : List Int32} (h : Lie g a (m8 T)) : pb (smC g a T.length ^^^ 4294967295) 4 = pb (ckv T).toInt64 4 := by
  apply pb4_low
  rw [← Int32.toBitVec_inj, Int64.toBitVec_toInt32, Int64.toBitVec_xor, smC_ckC (f := fB T) (a := 0) _ (fun j hj => by rw [Nat.zero_add]; exact m8_fB h hj), show ((4294967295 : Int64).toBitVec) = uZ (-1) from by decide, ← uZ_xor]
  have e : (ckC (fB T) 0 T.length ^^^ (-1)) = ckv T := rfl
  rw [e, Int64.toBitVec_toInt32, Int32.toBitVec_toInt64, BitVec.signExtend_eq_setWidth_of_le _ (by decide), BitVec.signExtend_eq_setWidth_of_le _ (by decide)]
  unfold uZ
  apply BitVec.eq_of_getLsbD_eq
  intro i hi
  simp only [BitVec.getLsbD_setWidth, BitVec.getLsbD_signExtend, hi, show i < 64 by omega, decide_true, Bool.true_and, if_true]
theorem m8_app (x y : List Int32) : m8 (x ++ y) = m8 x ++ m8 y := List.map_append
theorem m8_1 (x : Int32) : m8 [x] = [x &&& 255] := rfl
theorem Lie_zero8 {f : Nat → Int32} {a n : Nat} (hn : n ≤ 8) (h : ∀ j, a ≤ j → j < a + n → f j = 0) : Lie f a (m8 (pb 0 n)) := by
  have e : m8 (pb 0 n) = pb 0 n := by
    rw [pb_0 n hn]; unfold m8; rw [List.map_replicate]; rfl
  rw [e]; exact Lie_zero hn h
theorem g255 {g : Nat} (h : g < 256) : (nI g).toInt8.toInt32 &&& 255 = nI g := by
  rw [b255]
  have : ∀ k : Fin 256, nI k.val &&& 255 = nI k.val := by decide +kernel
  exact this ⟨g, h⟩
def PN : Nat → Nat → Nat → Prop := fun a b j => PA a b j ∨ (a = 20 ∧ b = 68)
theorem note_form {Z : Nat → Int32} {g o tm : Nat} {v : Int64} (hz : ∀ j, j < 78 → Z j = 0) (hg : g < 256) (ho : o < 256) :
    Lie (wr (wr (wr (wr (wr (wr (wr (wr (wr (wr (wr (wr (wr (wr Z 8 (m8 (pb 66 4))) 16 [2]) 27 (m8 (pb (lN tm) 8))) 35 (m8 (pb (lN tm) 8))) 43 (m8 (pb (-1) 8))) 51 (m8 (pb (-1) 2))) 53 (m8 (pb (-1) 4))) 57 (m8 (pb 1 4))) 61 [32]) 65 [4]) 66 [nI g]) 67 [nI o]) 68 [16]) 69 (m8 (pb v 8))) 21 (m8 (btH 0 (lN tm) (lN tm) (-1) (-1) (-1) 1 ++ ntB (nI g) (nI o) v)) ∧
    Lie (wr (wr (wr (wr (wr (wr (wr (wr (wr (wr (wr (wr (wr (wr Z 8 (m8 (pb 66 4))) 16 [2]) 27 (m8 (pb (lN tm) 8))) 35 (m8 (pb (lN tm) 8))) 43 (m8 (pb (-1) 8))) 51 (m8 (pb (-1) 2))) 53 (m8 (pb (-1) 4))) 57 (m8 (pb 1 4))) 61 [32]) 65 [4]) 66 [nI g]) 67 [nI o]) 68 [16]) 69 (m8 (pb v 8))) 0 (m8 (pb 0 8 ++ (pb 66 4 ++ (pb 0 4 ++ [2])))) := by
  obtain ⟨e1, e2, e3⟩ := vn1
  unfold btH ntB
  rw [e1, e2, e3]
  simp only [m8_app, m8_1, Lie_app, m8_len, pb_len, List.length_singleton, g255 hg, g255 ho, List.length_append, Nat.reduceAdd]
  refine ⟨⟨⟨?_, ?_, ?_, ?_, ?_, ?_, ?_, ?_⟩, ?_, ?_, ?_, ?_, ?_, ?_, ?_, ?_⟩, ?_, ?_, ?_, ?_⟩
  · refine Lie_zero8 (by omega) (fun j h1 h2 => ?_)
    iterate 14 rw [wr_out _ _ _ _ (by simp only [m8_len, pb_len, List.length_singleton]; omega)]
    exact hz j (by omega)
  · refine Lie_zero8 (by omega) (fun j h1 h2 => ?_)
    iterate 14 rw [wr_out _ _ _ _ (by simp only [m8_len, pb_len, List.length_singleton]; omega)]
    exact hz j (by omega)
  · iterate 11 refine wr_keep ?_ (by simp only [m8_len, pb_len, List.length_singleton]; omega)
    exact wr_Lie _ _ _
  · iterate 10 refine wr_keep ?_ (by simp only [m8_len, pb_len, List.length_singleton]; omega)
    exact wr_Lie _ _ _
  · iterate 9 refine wr_keep ?_ (by simp only [m8_len, pb_len, List.length_singleton]; omega)
    exact wr_Lie _ _ _
  · iterate 8 refine wr_keep ?_ (by simp only [m8_len, pb_len, List.length_singleton]; omega)
    exact wr_Lie _ _ _
  · iterate 7 refine wr_keep ?_ (by simp only [m8_len, pb_len, List.length_singleton]; omega)
    exact wr_Lie _ _ _
  · iterate 6 refine wr_keep ?_ (by simp only [m8_len, pb_len, List.length_singleton]; omega)
    exact wr_Lie _ _ _
  · iterate 5 refine wr_keep ?_ (by simp only [m8_len, pb_len, List.length_singleton]; omega)
    exact wr_Lie _ _ _
  · refine Lie_zero8 (by omega) (fun j h1 h2 => ?_)
    iterate 14 rw [wr_out _ _ _ _ (by simp only [m8_len, pb_len, List.length_singleton]; omega)]
    exact hz j (by omega)
  · iterate 4 refine wr_keep ?_ (by simp only [m8_len, pb_len, List.length_singleton]; omega)
    exact wr_Lie _ _ _
  · iterate 3 refine wr_keep ?_ (by simp only [m8_len, pb_len, List.length_singleton]; omega)
    exact wr_Lie _ _ _
  · iterate 2 refine wr_keep ?_ (by simp only [m8_len, pb_len, List.length_singleton]; omega)
    exact wr_Lie _ _ _
  · iterate 1 refine wr_keep ?_ (by simp only [m8_len, pb_len, List.length_singleton]; omega)
    exact wr_Lie _ _ _
  · exact wr_Lie _ _ _
  · refine ⟨?_, trivial⟩
    iterate 14 rw [wr_out _ _ _ _ (by simp only [m8_len, pb_len, List.length_singleton]; omega)]
    exact hz _ (by omega)
  · refine Lie_zero8 (by omega) (fun j h1 h2 => ?_)
    iterate 14 rw [wr_out _ _ _ _ (by simp only [m8_len, pb_len, List.length_singleton]; omega)]
    exact hz j (by omega)
  · iterate 13 refine wr_keep ?_ (by simp only [m8_len, pb_len, List.length_singleton]; omega)
    exact wr_Lie _ _ _
  · refine Lie_zero8 (by omega) (fun j h1 h2 => ?_)
    iterate 14 rw [wr_out _ _ _ _ (by simp only [m8_len, pb_len, List.length_singleton]; omega)]
    exact hz j (by omega)
  · iterate 12 refine wr_keep ?_ (by simp only [m8_len, pb_len, List.length_singleton]; omega)
    exact wr_Lie _ _ _
theorem m_notes {Y : Ly} {q : Nat → Nat → Nat} {nL W nB : Nat} {M : Mm} {st : Nat → Int64} {L : LSt} {g o tm : Nat} {v : Int64} {Kn : Int32 → Mm → Prop} (hC : SC Y q nL W nB) (hM : SM q (mR M)) (hG : Geo nL W nB (lS L)) (hML : ML q nL W nB M st L) (hD0 : lD L = 0) (hlf : LfOK (lL L)) (htm : mI M (q 20 0) 4 = nI tm) (ht : tm < 2 ^ 31) (hg : g < 256) (ho : o < 256)
    (h : ∀ L' r M', ApR nL W nB nL (noteB (nI g) (nI o) tm v) L L' r → ML q nL W nB M' st L' → Ef q PN M M' → Kn r M') : f_X12_notes Y (q 20 0) (nI g) (nI o) v M Kn := by
  have hd := sdims hC
  have k := sk_20_68 hC
  have n := sn_20_68 hC
  unfold f_X12_notes
  refine LOOP2_inv (fun x1 M2 => ∃ i, i ≤ 78 ∧ x1 = nI i ∧ (∃ f, M2 = sI M (q 20 68) f ∧ ∀ j, j < i → f j = 0)) (fun x1 _ => 78 - x1.toNatClampNeg) ?_ _ _ ⟨0, by omega, rfl, mI M (q 20 68), (sI_same _ _).symm, fun j hj => by omega⟩
  rintro x1 M2 again ⟨i, hi, rfl, f, rfl, hz⟩ hag
  unfold L_X12_notes_3
  rw [show (78 : Int32) = nI 78 from rfl, nI_cmp (by omega) (by omega)]
  refine ⟨fun c => ?_, fun c => ⟨sk_20_0 hC, _, sm_67 hM, k, by rw [n]; exact vp_in_nI (by omega) (by decide), fun M57 e57 x58 e58 => ?_⟩⟩
  · have hi78 : i = 78 := by omega
    subst hi78
    have vin : ∀ m, m < 78 → vp_in (nI m) (yN Y (q 20 68)) := fun m hm => by rw [n]; exact vp_in_nI hm (by decide)
    have cl : ∀ m, m < 78 → (nI m).toNatClampNeg = m := fun m hm => nI_clamp (by omega)
    refine ⟨sk_20_0 hC, q 20 68, sm_67 hM, w_set (a := 8) (n := 4) k (by omega) (by omega) ⟨q 20 68, sm_67 hM, k, vin 16 (by decide), fun M10 e10 => ?_⟩⟩
    simp only [mI_sI_self, sI_sI] at e10
    rw [show (16 : Int32).toNatClampNeg = 16 from rfl, m1_wr] at e10
    subst e10
    have t4 : ∀ F, mI (sI M (q 20 68) F) (q 20 0) 4 = nI tm := fun F => by rw [I_ne hC _ _ (by omega)]; exact htm
    refine ⟨q 20 68, sm_67 hM, w_set (a := 27) (n := 8) k (by omega) (by omega) ⟨q 20 68, sm_67 hM, w_set (a := 35) (n := 8) k (by omega) (by omega) ⟨q 20 68, sm_67 hM, w_set (a := 43) (n := 8) k (by omega) (by omega) ⟨q 20 68, sm_67 hM, w_set (a := 51) (n := 2) k (by omega) (by omega) ⟨q 20 68, sm_67 hM, w_set (a := 53) (n := 4) k (by omega) (by omega) ⟨q 20 68, sm_67 hM, w_set (a := 57) (n := 4) k (by omega) (by omega) ⟨q 20 68, sm_67 hM, k, vin 61 (by decide), fun M26 e26 => ?_⟩⟩⟩⟩⟩⟩⟩
    simp only [mI_sI_self, sI_sI, t4] at e26
    rw [show (61 : Int32).toNatClampNeg = 61 from rfl, m1_wr, nI_l ht] at e26
    subst e26
    refine ⟨q 20 68, sm_67 hM, k, vin 65 (by decide), fun M30 e30 => ?_⟩
    simp only [mI_sI_self, sI_sI] at e30
    rw [show (65 : Int32).toNatClampNeg = 65 from rfl, m1_wr] at e30
    subst e30
    refine ⟨q 20 68, sm_67 hM, k, vin 66 (by decide), fun M34 e34 => ?_⟩
    simp only [mI_sI_self, sI_sI] at e34
    rw [show (66 : Int32).toNatClampNeg = 66 from rfl, m1_wr] at e34
    subst e34
    refine ⟨q 20 68, sm_67 hM, k, vin 67 (by decide), fun M38 e38 => ?_⟩
    simp only [mI_sI_self, sI_sI] at e38
    rw [show (67 : Int32).toNatClampNeg = 67 from rfl, m1_wr] at e38
    subst e38
    refine ⟨q 20 68, sm_67 hM, k, vin 68 (by decide), fun M42 e42 => ?_⟩
    simp only [mI_sI_self, sI_sI] at e42
    rw [show (68 : Int32).toNatClampNeg = 68 from rfl, m1_wr] at e42
    subst e42
    refine ⟨q 20 68, sm_67 hM, w_set (a := 69) (n := 8) k (by omega) (by omega) ?_⟩
    simp only [mI_sI_self, sI_sI]
    obtain ⟨hT, hH⟩ := note_form (v := v) (tm := tm) (Z := f) hz hg ho
    have e66 : (66 : Int64) = lN 66 := rfl
    generalize hGG : wr (wr (wr (wr (wr (wr (wr (wr (wr (wr (wr (wr (wr (wr f 8 (m8 (pb 66 4))) 16 [2]) 27 (m8 (pb (lN tm) 8))) 35 (m8 (pb (lN tm) 8))) 43 (m8 (pb (-1) 8))) 51 (m8 (pb (-1) 2))) 53 (m8 (pb (-1) 4))) 57 (m8 (pb 1 4))) 61 [32]) 65 [4]) 66 [nI g]) 67 [nI o]) 68 [16]) 69 (m8 (pb v 8)) = G at hT hH ⊢
    obtain ⟨T, hTd⟩ : ∃ T, T = btH 0 (lN tm) (lN tm) (-1) (-1) (-1) 1 ++ ntB (nI g) (nI o) v := ⟨_, rfl⟩
    have hTl : T.length = 57 := by rw [hTd, List.length_append, btH_len, ntB_len]
    rw [← hTd] at hT
    refine ⟨q 20 68, sm_67 hM, q 20 68, sm_67 hM, s_sum (a := 21) (n := 57) k (by omega) (by omega) ?_⟩
    rw [mI_sI_self]
    have hs := sum_ck hT
    rw [hTl] at hs
    refine w_set (a := 17) (n := 4) k (by omega) (by omega) ⟨q 20 68, sm_67 hM, ?_⟩
    simp only [mI_sI_self, sI_sI]
    rw [hs, I_ne hC _ _ (by omega)]
    have hnL : mI M (q 20 0) 1 = nI nL := by obtain ⟨⟨B, hp, ht, hLM⟩, _⟩ := hML; exact hLM.1.1
    rw [hnL]
    have hLie : Lie (wr G 17 (m8 (pb (ckv T).toInt64 4))) 0 (m8 (noteB (nI g) (nI o) tm v)) := by
      unfold noteB
      rw [← hTd]
      unfold btF
      rw [hTl]
      simp only [m8_app, Lie_app, m8_len, pb_len, List.length_singleton, Nat.reduceAdd] at hH ⊢
      refine ⟨wr_keep hH.1 (by simp only [m8_len, pb_len]; omega), wr_keep hH.2.1 (by simp only [m8_len, pb_len]; omega), wr_keep hH.2.2.1 (by simp only [m8_len, pb_len]; omega), wr_keep hH.2.2.2 (by simp [m8]), wr_Lie _ _ _, wr_keep hT (by simp only [m8_len, pb_len]; omega)⟩
    have eF : EfH q (fun a b _ => a = 20 ∧ b = 68) M (sI M (q 20 68) (wr G 17 (m8 (pb (ckv T).toInt64 4)))) := EfH_sIr hC rfl (fun j => by omega)
    have hML' : ML q nL W nB (sI M (q 20 68) (wr G 17 (m8 (pb (ckv T).toInt64 4)))) st L := by
      obtain ⟨⟨B, hp, ht, hLM⟩, h1, h2, h3⟩ := hML
      refine ⟨⟨B, hp, ht, LogM_ef hLM eF (fun a b j z => by unfold PLg at z; omega)⟩, ?_, ?_, ?_⟩
      · rw [I_ne hC _ _ (by omega)]; exact h1
      · rw [I_ne hC _ _ (by omega)]; exact h2
      · rw [I_ne hC _ _ (by omega)]; exact h3
    have hnl := noteB_len (nI g) (nI o) tm v
    have := m_app (c := 68) (bt := noteB (nI g) (nI o) tm v) (Kn := Kn) hC (M := sI M (q 20 68) (wr G 17 (m8 (pb (ckv T).toInt64 4)))) hM (Nat.le_refl nL) (Or.inr rfl) hG hML' hD0 hlf (by rw [mI_sI_self]; exact hLie) (noteB_By _ _ _ _) (by omega) (by omega) (by omega) (fun L' r M' hA hL' E' => h L' r M' hA hL' (Ef_trans (Ef_mono eF.1 (fun a b j z => Or.inr z)) (Ef_mono E' (fun a b j z => Or.inl z))))
    rw [hnl] at this
    exact this
  · rw [mI_sI_self, sI_sI, nI_clamp (by omega)] at e57
    rw [nI_1] at e58
    subst e58
    refine hag _ _ ⟨i + 1, by omega, rfl, _, e57, fun j hj => ?_⟩ ?_
    · simp only [m1]
      split
      · rfl
      · exact hz j (by omega)
    · rw [nI_clamp (by omega), nI_clamp (by omega)]; omega
