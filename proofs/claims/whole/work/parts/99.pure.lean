set_option maxRecDepth 20000 in
theorem Dk_head {nL W nB l : Nat} {S : Nat → List Sg} {T : List Sg} {f f' : Nat → Int32} {st en : Nat → Int64} {s' e' : Int64} (hG : Geo nL W nB S) (hD : DkA nL f st en S) (hf : ∀ j, (j < (l + 1) * 1024 ∨ (l + 1) * 1024 + 500 ≤ j) → f' j = f j) (hl : l ≤ nL) (hh : Lie f' ((l + 1) * 1024) (hdL s' e' T)) (hp : ∀ p, p ∈ PS T → p ∈ PS (S l)) : DkA nL f' (m1 st l s') (m1 en l e') (m1 S l T) := by
  have keep : ∀ l2, l2 ≤ nL → ∀ p, p ∈ PS (S l2) → Lie f' p.1 p.2 := by
    intro l2 h2 p hp2
    have := PS_lo hG h2 hp2
    refine Lie_same ((hD l2 h2).2 p hp2) (fun j h1 h2 => hf j (Or.inr ?_))
    omega
  intro l2 h2
  by_cases e : l2 = l
  · subst e
    rw [m1_at, m1_at, m1_at]
    exact ⟨hh, fun p hp2 => keep l2 h2 p (hp p hp2)⟩
  · rw [m1_nat _ _ e, m1_nat _ _ e, m1_nat _ _ e]
    have hlen : (hdL (st l2) (en l2) (S l2)).length = 500 := hdL_len _ _ (hG.1 l2 h2).1
    refine ⟨Lie_same (hD l2 h2).1 (fun j h1 h3 => hf j ?_), fun p hp2 => keep l2 h2 p hp2⟩
    rw [hlen] at h3
    clear hlen
    rcases Nat.lt_or_gt_of_ne e with g | g
    · left; omega
    · right; omega
theorem PS_dropm {S : List Sg} {n : Nat} {p : Nat × Bt} (h : p ∈ PS (S.drop n)) : p ∈ PS S := by
  have : PS S = PS (S.take n) ++ PS (S.drop n) := by rw [← PS_app, List.take_append_drop]
  rw [this]; exact List.mem_append_right _ h
theorem szs_s {S : List Sg} {i : Nat} {s : Sg} (h : S[i]? = some s) : szs (S.drop i) = sz s + szs (S.drop (i + 1)) := by
  rw [drop_s h]; simp [szs]
def Fr1 (l : Nat) : Nat → Nat → Prop := fun a b => a = l + 1 ∨ (a = 0 ∧ (b = 10 ∨ b = 11 ∨ b = 16))
theorem c_retain {Y : Ly} {q : Nat → Nat → Nat} {nL W nB : Nat} {M : Mm} {st : Nat → Int64} {L : LSt} {l b : Nat} {Kn : Int32 → Mm → Prop} (hC : SC Y q nL W nB) (hR : SR q nL (mR M)) (hl : l ≤ nL) (hG : Geo nL W nB (lS L)) (hCL : CL q nL W nB M st L) (hD0 : lD L = 0) (hlf : LfOK (lL L)) (hb : b < 2 ^ 31)
    (h : ∀ st' L' r M', RetR l b st L st' L' r → CL q nL W nB M' st' L' → Fr q (Fr1 l) M M' → (∀ j, j < 1024 → mI M' (q 0 11) j = mI M (q 0 11) j) → Kn r M') : f_X9_dropDownTo Y (q 0 13) (q (l + 1) 0) (nI b) M Kn := by
  have hd := sdims hC
  have hCL0 := hCL
  obtain ⟨hLS, hDk, hw, hlf2, hdn, hLC⟩ := hCL
  have hLC := hLC hD0
  have hGl := hG.1 l hl
  have hct := Geo_count hG hl
  have hzz := Geo_szs hG hl
  have hPB := PS_len (lS L l)
  have n11 := sn_0_11 hC
  obtain ⟨a1, a2, a3, a4⟩ := hLC.2.2 l hl
  obtain ⟨S, eS⟩ : ∃ S, S = lS L l := ⟨_, rfl⟩
  unfold f_X9_dropDownTo
  refine ⟨sk_t_0 hC l hl, c_countBytes hC hR hG hLC hDk hl ?_⟩
  rw [← eS] at hGl hct hzz hPB a2 ⊢
  have t3 := a2.1
  have hszW : ∀ i s, S[i]? = some s → sz s ≤ W * 1024 := fun i s hs => (hGl.2 s (List.mem_of_getElem? hs)).2.2.1
  have hW : W * 1024 ≤ 16 * 1024 := Nat.mul_le_mul_right _ hd.2.2.2.1
  -- what is done at last
  have fin : ∀ i, rtG b (szs S) S = i → i ≤ S.length → f_X9_dropDownTo_52 Y (q 0 13) (q (l + 1) 0) Kn M (nI i) := by
    intro i hrt hi
    unfold f_X9_dropDownTo_52
    rw [nIeq (x := 0) (b := 0) rfl (by omega) (by omega)]
    refine ⟨fun c => ?_, fun c => ?_⟩
    rotate_left
    · exact h st L 0 M (Or.inl ⟨by rw [← eS, hrt, c], rfl, rfl, rfl⟩) hCL0 (Fr_refl _ _ _) (fun _ _ => rfl)
    have hS0 : S ≠ [] := fun z => by rw [z] at hi; simp at hi; omega
    have hlt : i < S.length := by rw [← hrt]; exact rtG_lt b S _ hS0
    refine c_dropFirst hC hR hl a2 hGl.1 (by omega) hi (fun M7 F7 J7 h07 T7 => ?_)
    have hR7 : SR q nL (mR M7) := by rw [F7.2]; exact hR
    obtain ⟨s, hs⟩ := lt_some hlt
    have hsg := hGl.2 s (List.mem_of_getElem? hs)
    -- the first batch that stays
    obtain ⟨b0, bs, hbs⟩ : ∃ b0 bs, s.2 = b0 :: bs := by
      cases e : s.2 with
      | nil => exact absurd e hsg.2.2.2.1
      | cons b0 bs => exact ⟨b0, bs, rfl⟩
    have ePS : PS (S.drop i) = (s.1 * 1024, b0) :: (pbs (s.1 * 1024 + b0.length) bs ++ PS (S.drop (i + 1))) := by
      rw [drop_s hs]
      show pbs (s.1 * 1024) s.2 ++ PS (S.drop (i + 1)) = _
      rw [hbs]; rfl
    have eBS : BS (S.drop i) = b0 :: (bs ++ BS (S.drop (i + 1))) := by
      rw [drop_s hs]
      show s.2 ++ BS (S.drop (i + 1)) = _
      rw [hbs]; rfl
    have h0 : (PS (S.drop i))[0]? = some (s.1 * 1024, b0) := by rw [ePS]; rfl
    have hm0 : (s.1 * 1024, b0) ∈ PS S := PS_dropm (List.mem_of_getElem? h0)
    have hm0' : (s.1 * 1024, b0) ∈ PS (lS L l) := by rw [← eS]; exact hm0
    have hlo := PS_lo hG hl hm0'
    have hLb := (hDk l hl).2 _ hm0'
    have hat : mI M7 (q (l + 1) 4) 0 = nI (s.1 * 1024) := Ar_map T7.2.2.2.2.2 h0
    have p7 : 0 < (PS (S.drop i)).length := by rw [ePS]; simp
    have pl : (PS (S.drop i)).length ≤ (PS S).length := by rw [PS_tk, List.length_drop]; omega
    rw [T7.2.1]
    refine ⟨fun z => absurd z (nI_nle p7 (by omega)), fun _ => ⟨sk_0_13 hC, _, sr_0_13_0 hR7, sk_0_10 hC, _, sr_0_10_0 hR7, _, sr_t_8 hR7 l hl, sk_t_4 hC l hl, by rw [sn_t_4 hC l hl]; exact vp_in_nI (n := 0) (by omega) (by omega), ?_⟩⟩
    rw [show (0 : Int32).toNatClampNeg = 0 from rfl, hat]
    have i11 : mI M7 (q 0 11) = mI M (q 0 11) := Fr_I hC F7 (by omega)
    have hLb' : Lie (mI M (q 0 11)) (s.1 * 1024) b0 := hLb
    have hlo1 : s.1 * 1024 + b0.length ≤ nB * 1024 := hlo.2.1
    have hlo2 : 61 ≤ b0.length := hlo.2.2
    have hx8 : s.1 * 1024 + 8 ≤ yN Y (q 0 11) := by rw [n11]; exact Nat.le_trans (Nat.add_le_add_left (Nat.le_trans (by decide) hlo2) _) hlo1
    refine s_baseOf (sk_0_11 hC) hx8 (by rw [n11]; omega) ?_
    rw [i11, ba_fB hLb' hlo2]
    unfold f_X9_dropDownTo_96 f_X9_dropDownTo_114
    intro M10 e10
    have F10 : Fr q (fun a _ => a = l + 1) M M10 := Fr_trans F7 (Fr_eJ e10 rfl)
    have I10 : ∀ x, mI M10 x = mI M7 x := fun x => by rw [e10]; rfl
    have J10 : mJ M10 (q (l + 1) 0) = m1 (mJ M (q (l + 1) 0)) 1 (baB b0) := by rw [e10, mJ_sJ_self, J7]
    have i10' : mI M10 (q 0 10) = mI M (q 0 10) := Fr_I hC F10 (by omega)
    have T10 : TabM q l M10 (S.drop i) := TabM_of T7 (fun c => I10 _)
    have hh0 : mI M10 (q (l + 1) 0) 0 = nI (l + 1) := by rw [I10, h07]; exact a1
    refine ⟨sk_0_13 hC, c_writeHead hC (by rw [F10.2]; exact hR) hl T10 (by rw [List.length_drop]; omega) (fun s hs => ?_) hh0 (by rw [i10', hdn]; exact hD0) (by rw [i10', hlf2]; exact hlf) ?_⟩
    · have := hGl.2 s (List.mem_of_mem_drop hs)
      exact ⟨by omega, by omega⟩
    intro FF l' ad dn full f hSp hout hfull
    have hfl := SpR_1 hSp
    have hLie := hfull hfl
    rw [i10', hlf2] at hSp
    rw [J10, m1_at, show m1 (mJ M (q (l + 1) 0)) 1 (baB b0) 2 = mJ M (q (l + 1) 0) 2 from m1_ne _ _ (by decide), a4] at hLie
    obtain ⟨M11, e11⟩ : ∃ M11, M11 = dk (sI M10 (q 0 16) FF) (q 0 10) (q 0 11) f (mI M10 (q 0 10) 1 + nI ad) l' dn := ⟨_, rfl⟩
    rw [← e11]
    have x10 : mI (sI M10 (q 0 16) FF) (q 0 10) = mI M (q 0 10) := by rw [I_ne hC _ _ (by omega)]; exact i10'
    have Fd : Fr q (Fr1 l) M10 M11 := by
      rw [e11]
      refine Fr_trans (Fr_sI _ 0 16 _ (Or.inr ⟨rfl, by simp⟩)) (Fr_trans (Fr_sI _ 0 11 _ (Or.inr ⟨rfl, by simp⟩)) (Fr_sI _ 0 10 _ (Or.inr ⟨rfl, by simp⟩)))
    have FM : Fr q (Fr1 l) M M11 := Fr_trans (Fr_mono F10 (fun a b z => Or.inl z)) Fd
    have w11 : mI M11 (q 0 11) = f := by rw [e11]; exact dk_r _ _ _ _ _ (q_ne hC (by omega))
    have w1 : mI M11 (q 0 10) 1 = lW L + nI ad := by rw [e11, dk_1, i10', hw]
    have w2 : mI M11 (q 0 10) 2 = l' := by rw [e11, dk_2]
    have w3 : mI M11 (q 0 10) 3 = dn := by rw [e11, dk_3]
    have wn : ∀ a b, ¬ (a = 0 ∧ (b = 10 ∨ b = 11 ∨ b = 16)) → mI M11 (q a b) = mI M10 (q a b) := fun a b n => by
      rw [e11, dk_n _ _ _ _ _ (q_ne hC (by omega)) (q_ne hC (by omega)), I_ne hC _ _ (by omega)]
    have wJ : mJ M11 = mJ M10 := by rw [e11]; rfl
    have eold : ∀ l2 c, l2 ≠ l → mI M11 (q (l2 + 1) c) = mI M (q (l2 + 1) c) ∧ mJ M11 (q (l2 + 1) c) = mJ M (q (l2 + 1) c) := fun l2 c n => by
      refine ⟨by rw [wn _ _ (by omega)]; exact Fr_I hC F10 (by omega), by rw [wJ]; exact Fr_J hC F10 (by omega)⟩
    have e13 : mI M11 (q 0 13) = mI M (q 0 13) := by rw [wn _ _ (by omega)]; exact Fr_I hC F10 (by omega)
    have hLS' : LogS q nL W M11 := by
      refine ⟨by rw [e13]; exact hLS.1, by rw [e13]; exact hLS.2.1, fun l2 h2 => ?_⟩
      by_cases e : l2 = l
      · subst e; rw [wn _ _ (by omega)]; exact hh0
      · rw [(eold l2 0 e).1]; exact hLS.2.2 l2 h2
    have hDk' : DkA nL (mI M11 (q 0 11)) (m1 st l (baB b0)) (m1 (lE L) l (lE L l)) (m1 (lS L) l (S.drop i)) := by
      rw [w11]
      refine Dk_head (f := mI M (q 0 11)) hG hDk (fun j hj => ?_) hl hLie (fun p hp => by rw [← eS]; exact PS_dropm hp)
      rw [hout j hj, I10, i11]
    rw [m1_same] at hDk'
    have hRet : RetR l b st L (m1 st l (baB b0)) (lE L, m1 (lS L) l (S.drop i), l', lW L + nI ad, dn) (if dn = 0 then nI i else -3) := by
      refine Or.inr ⟨by rw [← eS, hrt]; exact c, l', ad, dn, full, b0, _, by rw [← eS, hrt]; exact eBS, hSp, rfl, by rw [← eS, hrt], by rw [← eS, hrt]⟩
    have hCL' : CL q nL W nB M11 (m1 st l (baB b0)) (lE L, m1 (lS L) l (S.drop i), l', lW L + nI ad, dn) := by
      refine ⟨hLS', hDk', w1, w2, w3, fun _ => ⟨hLS'.1, hLS'.2.1, fun l2 h2 => ?_⟩⟩
      show mI M11 (q (l2 + 1) 0) 0 = nI (l2 + 1) ∧ TabM q l2 M11 (m1 (lS L) l (S.drop i) l2) ∧ mJ M11 (q (l2 + 1) 0) 1 = m1 st l (baB b0) l2 ∧ mJ M11 (q (l2 + 1) 0) 2 = lE L l2
      by_cases e : l2 = l
      · subst e
        rw [m1_at, m1_at]
        refine ⟨hLS'.2.2 l2 h2, TabM_of T10 (fun c => wn _ _ (by omega)), ?_, ?_⟩
        · rw [wJ, J10, m1_at]
        · rw [wJ, J10, m1_ne _ _ (by decide)]; exact a4
      · rw [m1_nat _ _ e, m1_nat _ _ e]
        obtain ⟨y1, y2, y3, y4⟩ := hLC.2.2 l2 h2
        exact ⟨hLS'.2.2 l2 h2, TabM_of y2 (fun c => (eold l2 c e).1), by rw [(eold l2 0 e).2]; exact y3, by rw [(eold l2 0 e).2]; exact y4⟩
    have key := h _ _ _ M11 hRet hCL' FM (fun j hj => by rw [w11, hout j (Or.inl (by omega)), I10, i11])
    rcases SpR_dn hSp with z | ⟨z, _⟩
    · rw [z] at key ⊢
      exact ⟨fun w => absurd w (by decide), fun _ => key⟩
    · rw [z] at key ⊢
      exact ⟨fun _ => key, fun w => absurd rfl w⟩
  refine LOOP2_inv (fun x4 x5 => ∃ i, i ≤ S.length ∧ x5 = nI i ∧ x4 = lN (szs (S.drop i)) ∧ rtG b (szs S) S = i + rtG b (szs (S.drop i)) (S.drop i)) (fun _ x5 => S.length - x5.toNatClampNeg) ?_ _ _ ⟨0, by omega, rfl, rfl, by rw [Nat.zero_add]; rfl⟩
  rintro x4 x5 again ⟨i, hi, rfl, rfl, he⟩ hag
  have hsd : szs (S.drop i) ≤ szs S := by
    unfold szs
    have : S.map sz = (S.take i).map sz ++ (S.drop i).map sz := by rw [← List.map_append, List.take_append_drop]
    rw [this, List.sum_append]; omega
  unfold L_X9_dropDownTo_8
  by_cases hz : S.length ≤ i + 1
  · have hrt : rtG b (szs S) S = i := by
      rw [he]
      have : (S.drop i).length ≤ 1 := by rw [List.length_drop]; omega
      cases e : S.drop i with
      | nil => rfl
      | cons s r =>
        rw [e] at this
        simp only [List.length_cons] at this
        have : r = [] := List.length_eq_zero_iff.mp (by omega)
        rw [this]; rfl
    refine ⟨fun _ => fin i hrt hi, fun z => absurd ?_ z⟩
    rw [t3]
    cases hn : S.length with
    | zero => rw [show i = 0 by omega]; decide
    | succ m => rw [nI_pred, nI_cmp (by omega) (by omega)]; omega
  · obtain ⟨s, hs⟩ := lt_some (show i < S.length by omega)
    obtain ⟨t, ht⟩ := lt_some (show i + 1 < S.length by omega)
    have h1 : ¬ (mI M (q (l + 1) 0) 3 - 1) ≤ nI i := by
      rw [t3, show S.length = (S.length - 1) + 1 by omega, nI_pred, nI_cmp (by omega) (by omega)]; omega
    have hszz := hszW i s hs
    have hss := szs_s hs
    have v2 : mI M (q (l + 1) 2) (nI i).toNatClampNeg = nI (sz s) := by rw [nI_clamp (by omega)]; exact Ar_map a2.2.2.2.1 hs
    have vi : vp_in (nI i) (yN Y (q (l + 1) 2)) := by rw [sn_t_2 hC l hl]; exact vp_in_nI (by omega) (by omega)
    refine ⟨fun z => absurd z h1, fun _ => ⟨_, sr_t_5 hR l hl, sk_t_2 hC l hl, vi, ?_⟩⟩
    rw [v2, nI_l (by omega), lN_sub (by omega), nI_l (by omega), pk_lLT (by omega) (by omega)]
    have hstep : rtG b (szs (S.drop i)) (S.drop i) = if b ≤ szs (S.drop i) - sz s then 1 + rtG b (szs (S.drop i) - sz s) (S.drop (i + 1)) else 0 := by
      rw [drop_s hs, drop_s ht]; rfl
    refine ⟨fun c => fin i (by rw [he, hstep, if_neg (by omega)]; rfl) hi, fun c => ⟨_, sr_t_5 hR l hl, sk_t_2 hC l hl, vi, fun x34 e34 x35 e35 => ?_⟩⟩
    rw [v2, nI_l (by omega), lN_sub (by omega)] at e34
    rw [nI_1] at e35
    subst e34 e35
    refine hag _ _ ⟨i + 1, by omega, rfl, by rw [hss]; congr 1; omega, ?_⟩ ?_
    · rw [he, hstep, if_pos (by omega), hss, show sz s + szs (S.drop (i + 1)) - sz s = szs (S.drop (i + 1)) by omega]; omega
    · rw [nI_clamp (by omega), nI_clamp (by omega)]; omega
