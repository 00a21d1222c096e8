/-! a batch comes into a log -/
def fB (b : Bt) : Nat → Int32 := fun j => b.getD j 0
theorem Lie_fB {f : Nat → Int32} {a : Nat} {b : Bt} (h : Lie f a b) : ∀ j, j < b.length → f (a + j) = fB b j := fun j hj => Lie_get h hj
theorem fB_Lie (b : Bt) : Lie (fB b) 0 b := Lie_of (fun j hj => by rw [Nat.zero_add]; rfl)
theorem beS_fB {f : Nat → Int32} {a i n : Nat} {b : Bt} (h : Lie f a b) (hn : i + n ≤ b.length) : beS f (a + i) n = beS (fB b) i n := beS_congr (fun j hj => by
  rw [Nat.add_assoc]; exact Lie_fB h (i + j) (by omega))
def cntB (b : Bt) : Int32 := b_countOf (fB b) 0
theorem cnt_fB {f : Nat → Int32} {a : Nat} {b : Bt} (h : Lie f a b) (hn : 61 ≤ b.length) : b_countOf f a = cntB b := by
  unfold cntB b_countOf
  rw [beS_fB h (by omega), Nat.zero_add]
def based (en : Int64) (b : Bt) : Bt := pb en 8 ++ b.drop 8
theorem based_len (en : Int64) {b : Bt} (h : 61 ≤ b.length) : (based en b).length = b.length := by
  unfold based
  rw [List.length_append, pb_len, List.length_drop]; omega
theorem based_Lie {f : Nat → Int32} {b : Bt} (en : Int64) (h : Lie f 0 b) (hn : 61 ≤ b.length) : Lie (wr f 0 (pb en 8)) 0 (based en b) := by
  unfold based
  rw [Lie_app]
  refine ⟨wr_Lie _ _ _, ?_⟩
  rw [pb_len]
  exact wr_keep (Lie_drop h 8 (by omega)) (Or.inr (by rw [pb_len]; omega))
theorem drop_fB {b : Bt} {i : Nat} : fB (b.drop i) = fun j => fB b (i + j) := by
  funext j
  simp [fB, List.getD]
theorem based_get (en : Int64) (b : Bt) {j : Nat} (h : 8 ≤ j) : fB (based en b) j = fB b j := by
  unfold based fB
  simp only [List.getD, List.getElem?_append, pb_len, show ¬ j < 8 from by omega, if_false, List.getElem?_drop]
  rw [show 8 + (j - 8) = j from by omega]
theorem cnt_based (en : Int64) (b : Bt) : cntB (based en b) = cntB b := by
  unfold cntB b_countOf
  rw [beS_congr (g := fB b) (a' := 0 + 57) (fun j hj => based_get en b (by omega))]
theorem J_ne {Y : Ly} {q : Nat → Nat → Nat} {nL W nB : Nat} (hC : SC Y q nL W nB) (M : Mm) {a b c d : Nat} (f : Nat → Int64) (h : ¬ (c = a ∧ d = b)) : mJ (sJ M (q a b) f) (q c d) = mJ M (q c d) := mJ_sJ_ne _ _ (q_ne hC h)
theorem TabM_of {q : Nat → Nat → Nat} {l : Nat} {M M' : Mm} {S : List Sg} (h : TabM q l M S) (e : ∀ c, mI M' (q (l + 1) c) = mI M (q (l + 1) c)) : TabM q l M' S := by
  unfold TabM at *
  rw [e, e, e, e, e]
  exact h
/-- what an appended batch touches -/
def Ap (l c : Nat) : Nat → Nat → Prop := fun a b => a = l + 1 ∨ (a = 0 ∧ (b = 10 ∨ b = 11 ∨ b = 15 ∨ b = 16 ∨ b = c))
set_option maxRecDepth 8000 in
theorem c_append48 {Y : Ly} {q : Nat → Nat → Nat} {nL W nB l k c : Nat} {S0 : List Sg} {bs : List Bt} {bt : Bt} {M : Mm} {Kn : Int64 → Mm → Prop} (hC : SC Y q nL W nB) (hR : SR q nL (mR M)) (hl : l ≤ nL) (hc : c = 1 ∨ c = 33) (hT : TabM q l M (S0 ++ [(k, bs)])) (hS : S0.length < 60) (hP : (PS (S0 ++ [(k, bs)])).length < nB * 1024 / 61)
    (hB : ∀ s, s ∈ S0 ++ [(k, bs ++ [based (mJ M (q (l + 1) 0) 2) bt])] → s.1 < 2 ^ 20 ∧ sz s < 2 ^ 30) (h0 : mI M (q (l + 1) 0) 0 = nI (l + 1)) (h3 : mI M (q 0 10) 3 = 0) (hlf : LfOK (mI M (q 0 10) 2)) (hL : Lie (mI M (q 0 c)) 0 bt) (h61 : 61 ≤ bt.length) (hcl : bt.length ≤ yN Y (q 0 c)) (hlo : (nL + 2) * 1024 ≤ k * 1024) (hhi : k * 1024 + sz (k, bs) + bt.length ≤ nB * 1024)
    (h : ∀ M' l' ad dn full, SpR (mI M (q 0 10) 2) (tch (k * 1024 + sz (k, bs)) bt.length + 1) l' ad dn full → Fr q (Ap l c) M M' →
      mI M' (q (l + 1) 0) 0 = nI (l + 1) → mI M' (q 0 10) 1 = mI M (q 0 10) 1 + nI ad → mI M' (q 0 10) 2 = l' → mI M' (q 0 10) 3 = dn → mI M' (q 0 15) = mI M (q 0 15) →
      TabM q l M' (S0 ++ [(k, bs ++ [based (mJ M (q (l + 1) 0) 2) bt])]) → mJ M' (q (l + 1) 0) 1 = mJ M (q (l + 1) 0) 1 → mJ M' (q (l + 1) 0) 2 = mJ M (q (l + 1) 0) 2 + (cntB bt).toInt64 →
      (∀ j, (j < k * 1024 + sz (k, bs) ∨ k * 1024 + sz (k, bs) + bt.length ≤ j) → (j < (l + 1) * 1024 ∨ (l + 1) * 1024 + 500 ≤ j) → mI M' (q 0 11) j = mI M (q 0 11) j) →
      (¬ full → ∀ j, (j < k * 1024 + sz (k, bs) ∨ k * 1024 + sz (k, bs) + bt.length ≤ j) → mI M' (q 0 11) j = mI M (q 0 11) j) →
      (full → Lie (mI M' (q 0 11)) ((l + 1) * 1024) (hdL (mJ M (q (l + 1) 0) 1) (mJ M (q (l + 1) 0) 2 + (cntB bt).toInt64) (S0 ++ [(k, bs ++ [based (mJ M (q (l + 1) 0) 2) bt])])) ∧ Lie (mI M' (q 0 11)) (k * 1024 + sz (k, bs)) (based (mJ M (q (l + 1) 0) 2) bt)) →
      Kn (if dn = 0 then mJ M (q (l + 1) 0) 2 else -3) M') : f_X9_append_48 Y (q 0 13) (q (l + 1) 0) (q 0 c) (nI bt.length) Kn M := by
  have hd := sdims hC
  have hkc : yK Y (q 0 c) = 100 := by
    rcases hc with rfl | rfl
    · exact sk_0_1 hC
    · exact sk_0_33 hC
  have hnc : yN Y (q 0 c) ≤ 16384 := by
    rcases hc with rfl | rfl
    · rw [sn_0_1 hC]; omega
    · rw [sn_0_33 hC]; omega
  obtain ⟨en, hen⟩ : ∃ en, en = mJ M (q (l + 1) 0) 2 := ⟨_, rfl⟩
  rw [← hen] at hB h
  have hbl := based_len en h61
  have hreg : (l + 1) * 1024 + 500 ≤ k * 1024 := Nat.le_trans (by omega) hlo
  unfold f_X9_append_48
  refine ⟨sk_t_0 hC l hl, fun x6 e6 => ?_⟩
  rw [← hen] at e6
  subst e6
  refine w_put (a := 0) (n := 8) hkc (by omega) (by omega) ?_
  obtain ⟨M7, hM7⟩ : ∃ M7, M7 = sI M (q 0 c) (wr (mI M (q 0 c)) 0 (pb x6 8)) := ⟨_, rfl⟩
  rw [← hM7]
  have F7 : Fr q (Ap l c) M M7 := by rw [hM7]; exact Fr_sI _ _ _ _ (Or.inr ⟨rfl, by simp⟩)
  have J7 : mJ M7 = mJ M := by rw [hM7]; rfl
  have hL7 : Lie (mI M7 (q 0 c)) 0 (based x6 bt) := by rw [hM7, mI_sI_self]; exact based_Lie x6 hL h61
  have T7 : ∀ x, mI M7 (q (l + 1) x) = mI M (q (l + 1) x) := fun x => by rw [hM7]; exact I_ne hC _ _ (by omega)
  have D7 : ∀ x, x ≠ c → mI M7 (q 0 x) = mI M (q 0 x) := fun x hx => by rw [hM7]; exact I_ne hC _ _ (by omega)
  clear hM7
  refine s_countOf (a := 0) hkc (by omega) (by omega) ?_
  rw [cnt_fB hL7 (by omega), cnt_based, J7]
  intro M10 e10
  rw [← hen] at e10
  have F10 : Fr q (Ap l c) M M10 := by rw [e10]; exact Fr_trans F7 (Fr_sJ _ _ _ _ (Or.inl rfl))
  have J10 : mJ M10 (q (l + 1) 0) = m1 (mJ M (q (l + 1) 0)) 2 (x6 + (cntB bt).toInt64) := by rw [e10, mJ_sJ_self]
  have I10 : mI M10 = mI M7 := by rw [e10]; rfl
  clear e10
  rw [← hbl]
  refine c_addBatch (S := S0) (k := k) (bs := bs) (b := based x6 bt) hC (by rw [F10.2]; exact hR) hl (TabM_of hT (fun x => by rw [I10, T7])) hS hP ?_
  intro M11 F11 J11 H11 T11
  have F11' : Fr q (Ap l c) M M11 := Fr_trans F10 (Fr_mono F11 (fun a b hab => Or.inl hab))
  have D11 : ∀ x, mI M11 (q 0 x) = mI M10 (q 0 x) := fun x => Fr_I hC F11 (by omega)
  have hc10 : 10 ≠ c ∧ 11 ≠ c ∧ 15 ≠ c ∧ 16 ≠ c := by rcases hc with rfl | rfl <;> omega
  have e10' : mI M11 (q 0 10) = mI M (q 0 10) := by rw [D11, I10, D7 _ hc10.1]
  have e11' : mI M11 (q 0 11) = mI M (q 0 11) := by rw [D11, I10, D7 _ hc10.2.1]
  have e15' : mI M11 (q 0 15) = mI M (q 0 15) := by rw [D11, I10, D7 _ hc10.2.2.1]
  have hL11 : Lie (mI M11 (q 0 c)) 0 (based x6 bt) := by rw [D11, I10]; exact hL7
  have H11' : mI M11 (q (l + 1) 0) 0 = nI (l + 1) := by rw [H11, I10, T7, h0]
  have J11' : mJ M11 (q (l + 1) 0) = m1 (mJ M (q (l + 1) 0)) 2 (x6 + (cntB bt).toInt64) := by rw [J11, J10]
  refine ⟨_, by rw [F11'.2]; exact sr_0_13_0 hR, sk_0_10 hC, ?_⟩
  refine w_write2 (a := 0) (sk_0_10 hC) (sk_0_11 hC) hkc (q_ne hC (by omega)) (q_ne hC (by omega)) (q_ne hC (by omega)) (by rw [F11'.2]; exact sr_0_10_0 hR) ?_ ?_ ?_ (by omega) ?_ ?_ ?_
  · rw [sn_0_11 hC, hbl]; exact hhi
  · rw [hbl]; omega
  · rw [sn_0_11 hC]; omega
  · rw [e10', h3]
  · rw [e10']; exact hlf
  rw [e10', e11', hbl]
  intro l1 ad1 dn1 full1 f1 hsp1 hout1 hfull1
  obtain ⟨M14, hM14⟩ : ∃ M14, M14 = dk M11 (q 0 10) (q 0 11) f1 (mI M (q 0 10) 1 + nI ad1) l1 dn1 := ⟨_, rfl⟩
  rw [← hM14]
  have F14 : Fr q (Ap l c) M M14 := by
    rw [hM14]; unfold dk
    exact Fr_trans F11' (Fr_trans (Fr_sI _ _ _ _ (Or.inr ⟨rfl, by simp⟩)) (Fr_sI _ _ _ _ (Or.inr ⟨rfl, by simp⟩)))
  have n14 : ∀ a b, ¬ (a = 0 ∧ (b = 10 ∨ b = 11)) → mI M14 (q a b) = mI M11 (q a b) := fun a b hab => by
    rw [hM14]; exact dk_n _ _ _ _ _ (q_ne hC (by omega)) (q_ne hC (by omega))
  have f14 : mI M14 (q 0 11) = f1 := by rw [hM14]; exact dk_r _ _ _ _ _ (q_ne hC (by omega))
  have w14 : mI M14 (q 0 10) 1 = mI M (q 0 10) 1 + nI ad1 := by rw [hM14, dk_1]
  have l14 : mI M14 (q 0 10) 2 = l1 := by rw [hM14, dk_2]
  have d14 : mI M14 (q 0 10) 3 = dn1 := by rw [hM14, dk_3]
  have J14 : mJ M14 = mJ M11 := by rw [hM14]; rfl
  have T14 : TabM q l M14 (S0 ++ [(k, bs ++ [based x6 bt])]) := TabM_of T11 (fun x => n14 _ _ (by omega))
  clear hM14
  have jst : m1 (mJ M (q (l + 1) 0)) 2 (x6 + (cntB bt).toInt64) 1 = mJ M (q (l + 1) 0) 1 := by simp [m1]
  have jen : m1 (mJ M (q (l + 1) 0)) 2 (x6 + (cntB bt).toInt64) 2 = x6 + (cntB bt).toInt64 := by simp [m1]
  have out : ∀ (y : Int32) (M' : Mm) (dn : Int32), (y = 0 ∨ y = 1) → (dn = 0 ↔ y = 1) → Kn (if dn = 0 then x6 else -3) M' → f_X9_append_113 Y Kn x6 y M' := by
    intro y M' dn hy hyd hK
    unfold f_X9_append_113 f_X9_append_128
    rcases hy with rfl | rfl
    · refine ⟨fun _ => ?_, fun c => absurd rfl c⟩
      rwa [if_neg (fun e => absurd (hyd.mp e) (by decide))] at hK
    · refine ⟨fun c => absurd c (by decide), fun _ => ?_⟩
      rwa [if_pos (hyd.mpr rfl)] at hK
  rcases SpR_dn hsp1 with hdn | ⟨hdn, hl1⟩
  rotate_left
  · -- the power went with the batch
    subst hdn
    refine ⟨fun _ => ?_, fun cc => absurd (if_neg (by decide)) cc⟩
    unfold f_X9_append_112
    refine out 0 M14 1 (Or.inl rfl) (by decide) ?_
    refine h M14 l1 ad1 1 False (SpR_cut 1 hsp1 (by decide)) F14 (by rw [n14 _ _ (by omega)]; exact H11') w14 l14 d14 (by rw [n14 _ _ (by omega)]; exact e15') T14 (by rw [J14, J11', jst]) (by rw [J14, J11', jen]) ?_ ?_ (fun z => z.elim)
    · intro j hj _; rw [f14]; exact hout1 j hj
    · intro _ j hj; rw [f14]; exact hout1 j hj
  subst hdn
  refine ⟨fun cc => absurd cc (by rw [if_pos rfl]; decide), fun _ => ?_⟩
  have hup := SpR_up hsp1 rfl
  refine c_writeHead hC (by rw [F14.2]; exact hR) hl T14 (by rw [List.length_append, List.length_singleton]; omega) hB (by rw [n14 _ _ (by omega)]; exact H11') d14 (by rw [l14]; exact hup.2.2) ?_
  rw [l14, w14, f14, J14, J11', jst, jen]
  intro F l2 ad2 dn2 full2 f2 hsp2 hout2 hfull2
  obtain ⟨M23, hM23⟩ : ∃ M23, M23 = dk (sI M14 (q 0 16) F) (q 0 10) (q 0 11) f2 (mI M (q 0 10) 1 + nI ad1 + nI ad2) l2 dn2 := ⟨_, rfl⟩
  rw [← hM23]
  have F23 : Fr q (Ap l c) M M23 := by
    rw [hM23]; unfold dk
    exact Fr_trans F14 (Fr_trans (Fr_sI _ _ _ _ (Or.inr ⟨rfl, by simp⟩)) (Fr_trans (Fr_sI _ _ _ _ (Or.inr ⟨rfl, by simp⟩)) (Fr_sI _ _ _ _ (Or.inr ⟨rfl, by simp⟩))))
  have n23 : ∀ a b, ¬ (a = 0 ∧ (b = 10 ∨ b = 11 ∨ b = 16)) → mI M23 (q a b) = mI M14 (q a b) := fun a b hab => by
    rw [hM23, dk_n _ _ _ _ _ (q_ne hC (by omega)) (q_ne hC (by omega)), I_ne hC _ _ (by omega)]
  have f23 : mI M23 (q 0 11) = f2 := by rw [hM23]; exact dk_r _ _ _ _ _ (q_ne hC (by omega))
  have w23 : mI M23 (q 0 10) 1 = mI M (q 0 10) 1 + nI (ad1 + ad2) := by rw [hM23, dk_1, Int32.add_assoc, nI_add]
  have l23 : mI M23 (q 0 10) 2 = l2 := by rw [hM23, dk_2]
  have d23 : mI M23 (q 0 10) 3 = dn2 := by rw [hM23, dk_3]
  have J23 : mJ M23 = mJ M14 := by rw [hM23]; rfl
  have hsp := SpR_add hsp1 hsp2
  have hK : Kn (if dn2 = 0 then x6 else -3) M23 := by
    refine h M23 l2 (ad1 + ad2) dn2 full2 hsp F23 (by rw [n23 _ _ (by omega), n14 _ _ (by omega)]; exact H11') w23 l23 d23 (by rw [n23 _ _ (by omega), n14 _ _ (by omega)]; exact e15') (TabM_of T14 (fun x => n23 _ _ (by omega))) (by rw [J23, J14, J11', jst]) (by rw [J23, J14, J11', jen]) ?_ ?_ ?_
    · intro j hj hj2
      rw [f23, hout2 j hj2, hout1 j hj]
    · intro hnf j hj
      -- the head's block is whole or was not reached: it is whole
      exfalso
      apply hnf
      rcases hsp2 with ⟨a, b, c, d, e⟩ | ⟨L, a, b, c, d, e, f, g⟩ | ⟨L, a, b, a', c, d, e, f, g⟩
      · exact e
      · exact g
      · exact g.mpr (by omega)
    · intro hf
      rw [f23]
      refine ⟨hfull2 hf, ?_⟩
      have e1 : Lie f1 (k * 1024 + sz (k, bs)) (based x6 bt) := by
        rw [hfull1 hup.1]
        exact cp_Lie hL11 (by rw [hbl]; omega)
      exact Lie_move e1 (fun j hj => hout2 _ (Or.inr (Nat.le_trans hreg (Nat.le_trans (Nat.le_add_right _ _) (Nat.le_add_right _ _)))))
  rcases SpR_dn hsp2 with hdn | ⟨hdn, -⟩
  · subst hdn
    refine ⟨fun cc => absurd cc (by rw [if_pos rfl]; decide), fun _ => out 1 M23 0 (Or.inr rfl) (by decide) hK⟩
  · subst hdn
    refine ⟨fun _ => ?_, fun cc => absurd (if_neg (by decide)) cc⟩
    unfold f_X9_append_112
    exact out 0 M23 1 (Or.inl rfl) (by decide) hK
