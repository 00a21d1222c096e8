/-! what stays is written -/
def wsum (X : List (List Bt)) : Nat := (X.map (fun g => tch 0 (tot g))).sum
theorem wsum_s {X : List (List Bt)} {s : Nat} {g : List Bt} (h : X[s]? = some g) : wsum (X.take (s + 1)) = wsum (X.take s) + tch 0 (tot g) := by
  rw [take_s h]; unfold wsum; simp
theorem wsum_d (X : List (List Bt)) (s : Nat) : wsum X = wsum (X.take s) + wsum (X.drop s) := by
  unfold wsum
  rw [← List.sum_append, ← List.map_append, List.take_append_drop]
def offB (W : Nat) (ks : List Nat) (j : Nat) : Prop := ∀ k, k ∈ ks → j < k * 1024 ∨ k * 1024 + W * 1024 ≤ j
set_option maxRecDepth 20000 in
theorem off_PS {nL W nB l : Nat} {S : Nat → List Sg} {ks : List Nat} (hG : Geo nL W nB S) (hW : 1 ≤ W) (hr : Rms (nL + 2) W nB (FFs S (nL + 1)) ks) (hl : l ≤ nL) {p : Nat × Bt} (hp : p ∈ PS (S l)) {j : Nat} (h1 : p.1 ≤ j) (h2 : j < p.1 + p.2.length) : offB W ks j := by
  obtain ⟨s, hs, a1, a2, a3⟩ := PS_in hp
  have gs := ((hG.1 l hl).2 s hs).2.2.1
  intro k hk
  obtain ⟨i, hi⟩ := List.getElem?_of_mem hk
  have hL := (hr i k hi).2.2.1
  have hcv : ∀ b, s.1 ≤ b → b < s.1 + W → k ≤ b → b < k + W → False := by
    intro b c1 c2 c3 c4
    have z := hL b c3 c4
    rw [cv_app] at z
    have m : s.1 ∈ (S l).map (fun s => s.1) := List.mem_map_of_mem hs
    have y := cv_mem (W := W) m c1 c2
    have x := FFs_ge (W := W) (S := S) (b := b) (n := nL + 1) (l := l) (by omega)
    omega
  by_cases z : s.1 + W ≤ k
  · left
    have : (s.1 + W) * 1024 ≤ k * 1024 := Nat.mul_le_mul_right _ z
    omega
  · by_cases y : k + W ≤ s.1
    · right
      have : (k + W) * 1024 ≤ s.1 * 1024 := Nat.mul_le_mul_right _ y
      omega
    · exact absurd (hcv (max k s.1) (by omega) (by omega) (by omega) (by omega)) (fun z => z)
set_option maxRecDepth 20000 in
theorem off_hd {nL W nB l : Nat} {F ks : List Nat} (hr : Rms (nL + 2) W nB F ks) (hl : l ≤ nL) {j : Nat} (h : j < (l + 2) * 1024) : offB W ks j := by
  intro k hk
  obtain ⟨i, hi⟩ := List.getElem?_of_mem hk
  have hL := (hr i k hi).1
  have : (nL + 2) * 1024 ≤ k * 1024 := Nat.mul_le_mul_right _ hL
  have : (l + 2) * 1024 ≤ (nL + 2) * 1024 := Nat.mul_le_mul_right _ (by omega)
  omega
set_option maxRecDepth 20000 in
theorem Dk_off {nL W nB : Nat} {S : Nat → List Sg} {ks : List Nat} {f f' : Nat → Int32} {st en : Nat → Int64} (hG : Geo nL W nB S) (hW : 1 ≤ W) (hr : Rms (nL + 2) W nB (FFs S (nL + 1)) ks) (hD : DkA nL f st en S) (hf : ∀ j, offB W ks j → f' j = f j) : DkA nL f' st en S := by
  intro l hl
  obtain ⟨d1, d2⟩ := hD l hl
  have hlen : (hdL (st l) (en l) (S l)).length = 500 := hdL_len _ _ (hG.1 l hl).1
  refine ⟨Lie_same d1 (fun j h1 h2 => hf j (off_hd hr hl ?_)), fun p hp => Lie_same (d2 p hp) (fun j h1 h2 => hf j (off_PS hG hW hr hl hp h1 h2))⟩
  rw [hlen] at h2
  clear hlen
  omega
set_option maxRecDepth 20000 in
theorem Dk_head2 {nL W nB l : Nat} {S : Nat → List Sg} {T : List Sg} {f f' : Nat → Int32} {st en : Nat → Int64} (hG : Geo nL W nB S) (hD : DkA nL f st en S) (hf : ∀ j, (j < (l + 1) * 1024 ∨ (l + 1) * 1024 + 500 ≤ j) → f' j = f j) (hl : l ≤ nL) (hh : Lie f' ((l + 1) * 1024) (hdL (st l) (en l) T)) (hp : ∀ p, p ∈ PS T → (nL + 2) * 1024 ≤ p.1 ∧ Lie f p.1 p.2) : DkA nL f' st en (m1 S l T) := by
  intro l2 h2
  by_cases e : l2 = l
  · subst e
    rw [m1_at]
    refine ⟨hh, fun p hp2 => Lie_same (hp p hp2).2 (fun j h1 h3 => hf j (Or.inr ?_))⟩
    have := (hp p hp2).1
    omega
  · rw [m1_nat _ _ e]
    have hlen : (hdL (st l2) (en l2) (S l2)).length = 500 := hdL_len _ _ (hG.1 l2 h2).1
    refine ⟨Lie_same (hD l2 h2).1 (fun j h1 h3 => hf j ?_), fun p hp2 => Lie_same ((hD l2 h2).2 p hp2) (fun j h1 h3 => hf j (Or.inr ?_))⟩
    · rw [hlen] at h3
      clear hlen
      rcases Nat.lt_or_gt_of_ne e with g | g
      · left; omega
      · right; omega
    · have := PS_lo hG h2 hp2
      clear hlen
      omega
theorem pbs_mem {bs : List Bt} {a : Nat} {p : Nat × Bt} (h : p ∈ pbs a bs) : ∃ m b, bs[m]? = some b ∧ p = (a + tot (bs.take m), b) := by
  obtain ⟨m, hm⟩ := List.getElem?_of_mem h
  have hlt : m < bs.length := by
    obtain ⟨h1, -⟩ := List.getElem?_eq_some_iff.mp hm
    rwa [pbs_len] at h1
  obtain ⟨b, hb⟩ := lt_some hlt
  rw [pbs_ix hb] at hm
  exact ⟨m, b, hb, by cases hm; rfl⟩
theorem SpR_0 {left : Int32} (h : LfOK left) : SpR left 0 left 0 0 True := by
  rcases h with h | ⟨L, h1, h2, h3⟩
  · exact Or.inl ⟨h, h, rfl, rfl, trivial⟩
  · exact Or.inr (Or.inl ⟨L, h1, h2, h3, by rw [Nat.sub_zero]; exact h3, rfl, rfl, trivial⟩)
theorem tch_0 (k n : Nat) : tch (k * 1024) n = tch 0 n := by
  have := tch_seg k 0 n
  rwa [Nat.add_zero] at this
def F1011 : Nat → Nat → Prop := fun a b => a = 0 ∧ (b = 10 ∨ b = 11)
set_option maxRecDepth 20000 in
theorem c_write {Y : Ly} {q : Nat → Nat → Nat} {nL W nB : Nat} {M : Mm} {st : Nat → Int64} {L : LSt} {l : Nat} {Sc : List Sg} {so : Sg} {ks : List Nat} {X : List (List Bt)} {Kn : Int32 → Mm → Prop} (hC : SC Y q nL W nB) (hR : SR q nL (mR M)) (hl : l ≤ nL) (hG : Geo nL W nB (lS L)) (hOK : LogOK nL (lS L)) (hCL : CL q nL W nB M st L) (hD0 : lD L = 0) (hlf : LfOK (lL L)) (hS : lS L l = Sc ++ [so]) (hX : X.length ≤ Sc.length) (hks : ks.length = X.length) (hrm : Rms (nL + 2) W nB (FFs (lS L) (nL + 1)) ks) (hPk : PkI W X) (hK : PK q M X) (hA : Ar (mI M (q 0 23)) ks) (hsz : ∀ b, b ∈ X.flatten → 61 ≤ b.length ∧ b_sizeOf (fB b) 0 = nI b.length) (hXt : tot X.flatten ≤ nB * 1024) (hXn : X.flatten.length ≤ (PS Sc).length)
    (h : ∀ L' dn l' ad full M', SpR (lL L) (wsum X + 1) l' ad dn full → ((full ∧ L' = (lE L, m1 (lS L) l (ks.zip X ++ [so]), l', lW L + nI ad, dn)) ∨ (¬ full ∧ L' = (lE L, lS L, l', lW L + nI ad, dn))) → CL q nL W nB M' st L' → Fr q (Fr1 l) M M' → (∀ j, j < 1024 → mI M' (q 0 11) j = mI M (q 0 11) j) → Kn (if dn = 0 then 1 else 0) M') : f_X2_write Y (q 0 18) (q (l + 1) 0) M Kn := by
  have hd := sdims hC
  have n11 := sn_0_11 hC
  have n22 := sn_0_22 hC
  obtain ⟨hLS, hDk, hw, hlf2, hdn, hLC⟩ := hCL
  have hLC := hLC hD0
  have hGl := hG.1 l hl
  rw [hS] at hGl
  have hScl : Sc.length < 60 := by have := hGl.1; rw [List.length_append, List.length_singleton] at this; omega
  have hct := Geo_count hG hl
  rw [hS] at hct
  obtain ⟨a1, a2, a3, a4⟩ := hLC.2.2 l hl
  rw [hS] at a2
  have hW : W * 1024 ≤ 16 * 1024 := Nat.mul_le_mul_right _ hd.2.2.2.1
  have ezl : (ks.zip X).length = X.length := by rw [List.length_zip]; omega
  have hkb : ∀ i k, ks[i]? = some k → nL + 2 ≤ k ∧ k + W ≤ nB := fun i k hk => ⟨(hrm i k hk).1, (hrm i k hk).2.1⟩
  have hcv : ∀ b, cv W ks b ≤ 1 := fun b => by
    have := Rms_cv hG.2 hrm ks.length (Nat.le_refl _) b
    rw [List.take_length, cv_app] at this; omega
  have hpw := cv_pw hd.2.2.1 ks hcv
  rw [List.pairwise_iff_getElem] at hpw
  have low : ∀ {f f' : Nat → Int32}, (∀ j, offB W ks j → f' j = f j) → ∀ j, j < 1024 → f' j = f j := fun hf j hj => hf j (off_hd (l := 0) hrm (by omega) (by omega))
  unfold f_X2_write
  refine LOOP3_inv (fun x1 x2 M3 => ∃ s l1 a1, s ≤ X.length ∧ x2 = nI s ∧ x1 = nI (tot (X.take s).flatten) ∧ SpR (lL L) (wsum (X.take s)) l1 a1 0 True ∧ Fr q F1011 M M3 ∧ mJ M3 = mJ M ∧ mI M3 (q 0 10) 1 = lW L + nI a1 ∧ mI M3 (q 0 10) 2 = l1 ∧ mI M3 (q 0 10) 3 = 0 ∧ (∀ j, offB W ks j → mI M3 (q 0 11) j = mI M (q 0 11) j) ∧ ∀ p, p ∈ PS ((ks.zip X).take s) → Lie (mI M3 (q 0 11)) p.1 p.2) (fun _ x2 _ => X.length - x2.toNatClampNeg) ?_ _ _ _ ⟨0, lL L, 0, by omega, rfl, rfl, SpR_0 hlf, Fr_refl _ _ _, rfl, by rw [hw, show nI 0 = 0 from rfl, Int32.add_zero], hlf2, by rw [hdn]; exact hD0, fun _ _ => rfl, fun p hp => by rw [List.take_zero] at hp; cases hp⟩
  rintro x1 x2 M3 again ⟨s, l1, a1', hs, rfl, rfl, hSp, F, J, w1, w2, w3, hof, hbt⟩ hag
  have hR3 : SR q nL (mR M3) := by rw [F.2]; exact hR
  have keep : ∀ a b, ¬ F1011 a b → mI M3 (q a b) = mI M (q a b) := fun a b hn => Fr_I hC F hn
  have i18 := keep 0 18 (by unfold F1011; omega)
  have hl1 := (SpR_up hSp rfl).2.2
  unfold L_X2_write_4
  rw [i18, hK.1, nI_cmp (by omega) (by omega)]
  refine ⟨sk_0_18 hC, fun c => ?_, fun c => ?_⟩
  · have es : s = X.length := by omega
    subst es
    rw [List.take_of_length_le (by omega)] at hbt hSp
    have T3 : TabM q l M3 (Sc ++ [so]) := TabM_of a2 (fun c => keep _ _ (by unfold F1011; omega))
    have E3 : Ec q (fun a b _ => F1011 a b) M M3 := Ec_Fr hC F
    have K3 : PK q M3 X := PK_ec hK E3 (by unfold F1011; omega) (by unfold F1011; omega) (fun j => by unfold F1011; omega) (fun j => by unfold F1011; omega) (fun j _ => by rw [keep 0 22 (by unfold F1011; omega)])
    have hD3 := Dk_off hG hd.2.2.1 hrm hDk hof
    refine c_replace hC hR3 hl T3 hScl hX hks K3 (by rw [keep 0 23 (by unfold F1011; omega)]; exact hA) hsz hXt hXn (by omega) (fun p hp => ?_) (fun M6 F6 J6 z6 T6 => ?_)
    · have hp' : p ∈ PS (lS L l) := by rw [hS]; exact hp
      exact ⟨(hD3 l hl).2 p hp', (PS_lo hG hl hp').2.1, hOK l hl p.2 (by rw [← PS_snd]; exact List.mem_map_of_mem hp')⟩
    have hR6 : SR q nL (mR M6) := by rw [F6.2]; exact hR3
    have j6 : ∀ c, mI M6 (q 0 c) = mI M3 (q 0 c) := fun c => Fr_I hC F6 (by omega)
    have hh0 : mI M6 (q (l + 1) 0) 0 = nI (l + 1) := by rw [z6, keep _ _ (by unfold F1011; omega)]; exact a1
    refine ⟨_, sr_0_18_0 hR6, sk_0_13 hC, c_writeHead hC hR6 hl T6 (by rw [List.length_append, List.length_singleton]; omega) (fun t ht => ?_) hh0 (by rw [j6]; exact w3) (by rw [j6, w2]; exact hl1) ?_⟩
    · rcases List.mem_append.mp ht with ht | ht
      · obtain ⟨i, hi⟩ := List.getElem?_of_mem ht
        obtain ⟨k, g, h1, h2, h3⟩ := zip_ix hks (show i < X.length by have := (List.getElem?_eq_some_iff.mp hi).1; omega)
        rw [h3] at hi; cases hi
        have e1 := hkb i k h1
        have e2 := (hPk g (List.mem_of_getElem? h2)).2
        exact ⟨by show k < _; omega, by show tot g < _; omega⟩
      · rw [List.mem_singleton] at ht
        subst ht
        have := hGl.2 t (by simp)
        exact ⟨by omega, by omega⟩
    intro FF l' ad dn full f hSp2 hout hfull
    have hfl := SpR_1 hSp2
    have hLie := hfull hfl
    rw [j6, w2] at hSp2
    have hSpA := SpR_add hSp hSp2
    rw [J6, J, a3, a4] at hLie
    obtain ⟨M11, e11⟩ : ∃ M11, M11 = dk (sI M6 (q 0 16) FF) (q 0 10) (q 0 11) f (mI M6 (q 0 10) 1 + nI ad) l' dn := ⟨_, rfl⟩
    rw [← e11]
    have Fd : Fr q (Fr1 l) M6 M11 := by
      rw [e11]
      refine Fr_trans (Fr_sI _ 0 16 _ (Or.inr ⟨rfl, by simp⟩)) (Fr_trans (Fr_sI _ 0 11 _ (Or.inr ⟨rfl, by simp⟩)) (Fr_sI _ 0 10 _ (Or.inr ⟨rfl, by simp⟩)))
    have F36 : Fr q (Fr1 l) M M6 := Fr_trans (Fr_mono F (fun a b z => Or.inr ⟨z.1, by rcases z.2 with y | y <;> simp [y]⟩)) (Fr_mono F6 (fun a b z => Or.inl z))
    have FM : Fr q (Fr1 l) M M11 := Fr_trans F36 Fd
    have v11 : mI M11 (q 0 11) = f := by rw [e11]; exact dk_r _ _ _ _ _ (q_ne hC (by omega))
    have v1 : mI M11 (q 0 10) 1 = lW L + nI (a1' + ad) := by rw [e11, dk_1, j6, w1, Int32.add_assoc, nI_add]
    have v2 : mI M11 (q 0 10) 2 = l' := by rw [e11, dk_2]
    have v3 : mI M11 (q 0 10) 3 = dn := by rw [e11, dk_3]
    have wn : ∀ a b, ¬ (a = 0 ∧ (b = 10 ∨ b = 11 ∨ b = 16)) → mI M11 (q a b) = mI M6 (q a b) := fun a b n => by
      rw [e11, dk_n _ _ _ _ _ (q_ne hC (by omega)) (q_ne hC (by omega)), I_ne hC _ _ (by omega)]
    have wJ : mJ M11 = mJ M := by rw [e11]; show mJ M6 = mJ M; rw [J6, J]
    have eold : ∀ l2 c, l2 ≠ l → mI M11 (q (l2 + 1) c) = mI M (q (l2 + 1) c) := fun l2 c n => by
      rw [wn _ _ (by omega)]; exact Fr_I hC F36 (by unfold Fr1; omega)
    have e13 : mI M11 (q 0 13) = mI M (q 0 13) := by rw [wn _ _ (by omega)]; exact Fr_I hC F36 (by unfold Fr1; omega)
    have hLS' : LogS q nL W M11 := by
      refine ⟨by rw [e13]; exact hLS.1, by rw [e13]; exact hLS.2.1, fun l2 h2 => ?_⟩
      by_cases e : l2 = l
      · subst e; rw [wn _ _ (by omega)]; exact hh0
      · rw [eold l2 0 e]; exact hLS.2.2 l2 h2
    have hDk' : DkA nL (mI M11 (q 0 11)) st (lE L) (m1 (lS L) l (ks.zip X ++ [so])) := by
      rw [v11]
      refine Dk_head2 (f := mI M3 (q 0 11)) hG hD3 (fun j hj => by rw [hout j hj, j6]) hl hLie (fun p hp => ?_)
      rw [PS_app, List.mem_append] at hp
      rcases hp with hp | hp
      · refine ⟨?_, hbt p hp⟩
        obtain ⟨t, ht, b1, -, -⟩ := PS_in hp
        obtain ⟨i, hi⟩ := List.getElem?_of_mem ht
        obtain ⟨k, g, h1, h2, h3⟩ := zip_ix hks (show i < X.length by have := (List.getElem?_eq_some_iff.mp hi).1; omega)
        rw [h3] at hi; cases hi
        have e1 := (hkb i k h1).1
        have : (nL + 2) * 1024 ≤ k * 1024 := Nat.mul_le_mul_right _ e1
        exact Nat.le_trans this b1
      · have hp' : p ∈ PS (lS L l) := by rw [hS, PS_app]; exact List.mem_append_right _ hp
        exact ⟨(PS_lo hG hl hp').1, (hD3 l hl).2 p hp'⟩
    have hCL' : CL q nL W nB M11 st (lE L, m1 (lS L) l (ks.zip X ++ [so]), l', lW L + nI (a1' + ad), dn) := by
      refine ⟨hLS', hDk', v1, v2, v3, fun _ => ⟨hLS'.1, hLS'.2.1, fun l2 h2 => ?_⟩⟩
      show mI M11 (q (l2 + 1) 0) 0 = nI (l2 + 1) ∧ TabM q l2 M11 (m1 (lS L) l (ks.zip X ++ [so]) l2) ∧ mJ M11 (q (l2 + 1) 0) 1 = st l2 ∧ mJ M11 (q (l2 + 1) 0) 2 = lE L l2
      rw [wJ]
      obtain ⟨y1, y2, y3, y4⟩ := hLC.2.2 l2 h2
      refine ⟨hLS'.2.2 l2 h2, ?_, y3, y4⟩
      by_cases e : l2 = l
      · subst e
        rw [m1_at]
        exact TabM_of T6 (fun c => wn _ _ (by omega))
      · rw [m1_nat _ _ e]
        exact TabM_of y2 (fun c => eold l2 c e)
    have key := h _ dn l' (a1' + ad) full M11 hSpA (Or.inl ⟨hfl, rfl⟩) hCL' FM (fun j hj => by rw [v11, hout j (Or.inl (by omega)), j6]; exact low hof j hj)
    rcases SpR_dn hSp2 with z | ⟨z, _⟩
    · rw [z] at key ⊢
      exact ⟨Or.inr rfl, key⟩
    · rw [z] at key ⊢
      exact ⟨Or.inl rfl, key⟩
  · obtain ⟨k, g, hk, hg, hz⟩ := zip_ix hks (show s < X.length by omega)
    obtain ⟨hk1, hk2⟩ := hkb s k hk
    have hgI := (hPk g (List.mem_of_getElem? hg)).2
    have e24 : mI M3 (q 0 24) s = nI (tot g) := by rw [keep 0 24 (by unfold F1011; omega)]; exact Ar_map hK.2.2.1 hg
    have e23 : mI M3 (q 0 23) s = nI k := by rw [keep 0 23 (by unfold F1011; omega)]; exact Ar_at hA hk
    have hkW : k * 1024 + W * 1024 ≤ nB * 1024 := by rw [← Nat.add_mul]; exact Nat.mul_le_mul_right _ hk2
    have hgt : tot (X.take s).flatten + tot g ≤ tot X.flatten := by
      have x1 : X.flatten = (X.take (s + 1)).flatten ++ (X.drop (s + 1)).flatten := by rw [← List.flatten_append, List.take_append_drop]
      rw [x1, flat_s hg, tot_app, tot_app]; omega
    refine ⟨_, sr_0_18_0 hR3, sk_0_13 hC, _, sr_0_13_0 hR3, _, sr_0_18_10 hR3, sk_0_23 hC, by rw [sn_0_23 hC]; exact vp_in_nI (by omega) (by decide), _, sr_0_18_6 hR3, _, sr_0_18_11 hR3, sk_0_24 hC, by rw [sn_0_24 hC]; exact vp_in_nI (by omega) (by decide), sk_0_10 hC, ?_⟩
    rw [nI_clamp (by omega), e23, e24, show (1024 : Int32) = nI 1024 from rfl, pk_mul]
    refine w_write2 (sk_0_10 hC) (sk_0_11 hC) (sk_0_22 hC) (q_ne hC (by omega)) (q_ne hC (by omega)) (q_ne hC (by omega)) (sr_0_10_0 hR3) (by omega) (by omega) (by omega) (by omega) w3 (by rw [w2]; exact hl1) ?_
    intro l' ad dn full f hSp2 hout hfull
    rw [w2, tch_0] at hSp2
    have hSpA := SpR_add hSp hSp2
    rw [← wsum_s hg] at hSpA
    obtain ⟨M21, e21⟩ : ∃ M21, M21 = dk M3 (q 0 10) (q 0 11) f (mI M3 (q 0 10) 1 + nI ad) l' dn := ⟨_, rfl⟩
    rw [← e21]
    have v11 : mI M21 (q 0 11) = f := by rw [e21]; exact dk_r _ _ _ _ _ (q_ne hC (by omega))
    have v1 : mI M21 (q 0 10) 1 = lW L + nI (a1' + ad) := by rw [e21, dk_1, w1, Int32.add_assoc, nI_add]
    have v2 : mI M21 (q 0 10) 2 = l' := by rw [e21, dk_2]
    have v3 : mI M21 (q 0 10) 3 = dn := by rw [e21, dk_3]
    have Fd : Fr q F1011 M3 M21 := by
      rw [e21]
      exact Fr_trans (Fr_sI _ 0 11 _ ⟨rfl, Or.inr rfl⟩) (Fr_sI _ 0 10 _ ⟨rfl, Or.inl rfl⟩)
    have F21 := Fr_trans F Fd
    have J21 : mJ M21 = mJ M := by rw [e21]; exact J
    have hof' : ∀ j, offB W ks j → mI M21 (q 0 11) j = mI M (q 0 11) j := fun j hj => by
      rw [v11, hout j ?_]
      · exact hof j hj
      · have := hj k (List.mem_of_getElem? hk)
        omega
    have keep21 : ∀ a b, ¬ F1011 a b → mI M21 (q a b) = mI M (q a b) := fun a b hn => Fr_I hC F21 hn
    rcases SpR_dn hSp2 with z | ⟨z, _⟩
    · rw [z] at hSp2 hSpA v3 ⊢
      obtain ⟨hfl, -, -⟩ := SpR_up hSp2 rfl
      refine ⟨fun _ => ⟨q 0 24, by rw [F21.2]; exact sr_0_18_11 hR, sk_0_24 hC, by rw [sn_0_24 hC]; exact vp_in_nI (by omega) (by decide), fun x28 e28 x29 e29 => ?_⟩, fun c => absurd c (by decide)⟩
      rw [keep21 0 24 (by unfold F1011; omega), ← keep 0 24 (by unfold F1011; omega), e24, nI_add] at e28
      rw [nI_1] at e29
      subst e28 e29
      have hff := hfull hfl
      refine hag _ _ _ ⟨s + 1, l', a1' + ad, by omega, rfl, by rw [flat_s hg, tot_app], ?_, F21, J21, v1, v2, v3, hof', fun p hp => ?_⟩ (by rw [nI_clamp (by omega), nI_clamp (by omega)]; omega)
      · have e : full = True := eq_true hfl
        rw [e] at hSpA; exact hSpA
      · rw [v11]
        rw [take_s hz, PS_app, PS_1, List.mem_append] at hp
        rcases hp with hp | hp
        · refine Lie_same (hbt p hp) (fun j h1 h2 => hout j ?_)
          obtain ⟨t, ht, b1, b2, b3⟩ := PS_in hp
          obtain ⟨i, hi⟩ := List.getElem?_of_mem ht
          have hil : i < s := by
            have := (List.getElem?_eq_some_iff.mp hi).1
            rw [List.length_take] at this; omega
          rw [List.getElem?_take_of_lt hil] at hi
          obtain ⟨k2, g2, c1, c2, c3⟩ := zip_ix hks (show i < X.length by omega)
          rw [c3] at hi; cases hi
          have c4 := (hPk g2 (List.mem_of_getElem? c2)).2
          obtain ⟨d1, d2⟩ := List.getElem?_eq_some_iff.mp c1
          obtain ⟨d3, d4⟩ := List.getElem?_eq_some_iff.mp hk
          have dd := hpw i s d1 d3 hil
          rw [d2, d4] at dd
          have b2' : p.1 + p.2.length ≤ k2 * 1024 + tot g2 := b2
          have b1' : k2 * 1024 ≤ p.1 := b1
          rcases dd with dd | dd
          · have : (k2 + W) * 1024 ≤ k * 1024 := Nat.mul_le_mul_right _ dd
            left; omega
          · have : (k + W) * 1024 ≤ k2 * 1024 := Nat.mul_le_mul_right _ dd
            right; omega
        · obtain ⟨m, b, hb, rfl⟩ := pbs_mem hp
          obtain ⟨r, er⟩ := flat_at hg hb
          have hmem : (tot ((X.take s).flatten ++ g.take m), b) ∈ pbs 0 X.flatten := by rw [er]; exact pbs_mid
          have hlie := hK.2.2.2.2 _ hmem
          have hmt : tot (g.take m) + b.length ≤ tot g := by
            have := tot_mono g (m + 1)
            rw [tot_take hb] at this; exact this
          refine Lie_move hlie (fun j hj => ?_)
          rw [hff]
          unfold cp
          have hj' : j < b.length := hj
          rw [if_pos (by show k * 1024 ≤ k * 1024 + tot (g.take m) + j ∧ k * 1024 + tot (g.take m) + j < k * 1024 + tot g; omega), keep 0 22 (by unfold F1011; omega), tot_app]
          congr 1
          show tot (X.take s).flatten + (k * 1024 + tot (g.take m) + j - k * 1024) = tot (X.take s).flatten + tot (g.take m) + j
          omega
    · rw [z] at hSp2 hSpA v3 ⊢
      refine ⟨fun c => absurd rfl c, fun _ => ⟨Or.inl rfl, ?_⟩⟩
      have hcut := SpR_cut (wsum (X.drop (s + 1)) + 1) hSpA (by omega)
      rw [← Nat.add_assoc, ← wsum_d] at hcut
      have fr1 : Fr q (Fr1 l) M M21 := Fr_mono F21 (fun a b z => Or.inr ⟨z.1, by rcases z.2 with y | y <;> simp [y]⟩)
      have hCL' : CL q nL W nB M21 st (lE L, lS L, l', lW L + nI (a1' + ad), 1) := by
        refine ⟨⟨by rw [keep21 0 13 (by unfold F1011; omega)]; exact hLS.1, by rw [keep21 0 13 (by unfold F1011; omega)]; exact hLS.2.1, fun l2 h2 => by rw [keep21 _ _ (by unfold F1011; omega)]; exact hLS.2.2 l2 h2⟩, Dk_off hG hd.2.2.1 hrm hDk hof', v1, v2, v3, fun e => absurd (show (1 : Int32) = 0 from e) (by decide)⟩
      exact h _ 1 l' (a1' + ad) False M21 hcut (Or.inr ⟨fun z => z, rfl⟩) hCL' fr1 (low hof')
