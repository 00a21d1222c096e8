/-! the table after compaction -/
theorem c_addSegment2 {Y : Ly} {q : Nat → Nat → Nat} {nL W nB l k : Nat} {S : List Sg} {M : Mm} {Kn : Mm → Prop} (hC : SC Y q nL W nB) (hR : SR q nL (mR M)) (hl : l ≤ nL) (hT : TabM q l M S) (hS : S.length < 60)
    (h : ∀ M', Fr q (fun a _ => a = l + 1) M M' → mJ M' = mJ M → mI M' (q (l + 1) 0) 0 = mI M (q (l + 1) 0) 0 → TabM q l M' (S ++ [(k, [])]) → mI M' (q (l + 1) 4) = mI M (q (l + 1) 4) → Kn M') : f_X8_addSegment Y (q (l + 1) 0) (nI k) M Kn := by
  obtain ⟨t3, t7, tb, tz, th, ta⟩ := hT
  unfold f_X8_addSegment
  rw [t3, nI_clamp (by omega)]
  refine ⟨sk_t_0 hC l hl, _, sr_t_4 hR l hl, sk_t_1 hC l hl, by rw [sn_t_1 hC l hl]; exact vp_in_nI hS (by decide), fun M5 e5 => ?_⟩
  subst e5
  simp only [mR_sI]
  refine ⟨_, sr_t_5 hR l hl, sk_t_2 hC l hl, ?_, fun M9 e9 => ?_⟩
  · rw [I_ne hC _ _ (by omega), t3, sn_t_2 hC l hl]; exact vp_in_nI hS (by decide)
  rw [I_ne hC _ _ (by omega), I_ne hC _ _ (by omega), t3, nI_clamp (by omega)] at e9
  subst e9
  simp only [mR_sI]
  refine ⟨_, sr_t_6 hR l hl, sk_t_3 hC l hl, ?_, fun M13 e13 M14 e14 => ?_⟩
  · rw [I_ne hC _ _ (by omega), I_ne hC _ _ (by omega), t3, sn_t_3 hC l hl]; exact vp_in_nI hS (by decide)
  rw [I_ne hC _ _ (by omega), I_ne hC _ _ (by omega), I_ne hC _ _ (by omega), I_ne hC _ _ (by omega), t3, nI_clamp (by omega)] at e13
  subst e13
  rw [I_ne hC _ _ (by omega), I_ne hC _ _ (by omega), I_ne hC _ _ (by omega), t3, nI_1] at e14
  subst e14
  refine h _ ?_ rfl ?_ ?_ (by rw [I_ne hC _ _ (by omega), I_ne hC _ _ (by omega), I_ne hC _ _ (by omega), I_ne hC _ _ (by omega)])
  · exact Fr_trans (Fr_trans (Fr_trans (Fr_sI _ _ _ _ rfl) (Fr_sI _ _ _ _ rfl)) (Fr_sI _ _ _ _ rfl)) (Fr_sI _ _ _ _ rfl)
  · rw [mI_sI_self]; simp [m1]
  · have e0 : PS (S ++ [(k, [])]) = PS S := by rw [PS_app, PS_1]; simp [pbs]
    unfold TabM TabR
    rw [e0]
    simp only [mI_sI_self]
    rw [I_ne hC _ _ (by omega), I_ne hC _ _ (by omega), I_ne hC _ _ (by omega), mI_sI_self, I_ne hC _ _ (by omega), I_ne hC _ _ (by omega), mI_sI_self, I_ne hC _ _ (by omega), mI_sI_self, I_ne hC _ _ (by omega), I_ne hC _ _ (by omega), I_ne hC _ _ (by omega), I_ne hC _ _ (by omega)]
    simp only [List.map_append, List.map_cons, List.map_nil, List.length_append, List.length_singleton]
    refine ⟨by simp [m1], by simp [m1, t7], ?_, ?_, ?_, ta⟩
    · have := Ar_snoc tb k; rwa [List.length_map] at this
    · have := Ar_snoc tz 0; rw [List.length_map] at this; exact this
    · have := Ar_snoc th 0; rw [List.length_map] at this; exact this
theorem c_addBatch2 {Y : Ly} {q : Nat → Nat → Nat} {nL W nB l k : Nat} {S : List Sg} {bs : List Bt} {b : Bt} {M : Mm} {Kn : Int32 → Mm → Prop} (hC : SC Y q nL W nB) (hR : SR q nL (mR M)) (hl : l ≤ nL) (hT : TabM q l M (S ++ [(k, bs)])) (hS : S.length < 60) (hP : (PS (S ++ [(k, bs)])).length < nB * 1024 / 61)
    (h : ∀ M', Fr q (fun a _ => a = l + 1) M M' → mJ M' = mJ M → mI M' (q (l + 1) 0) 0 = mI M (q (l + 1) 0) 0 → TabM q l M' (S ++ [(k, bs ++ [b])]) → (∀ j, j ≠ (PS (S ++ [(k, bs)])).length → mI M' (q (l + 1) 4) j = mI M (q (l + 1) 4) j) → Kn (nI (k * 1024 + sz (k, bs))) M') : f_X8_addBatch Y (q (l + 1) 0) (nI b.length) M Kn := by
  obtain ⟨t3, t7, tb, tz, th, ta⟩ := hT
  have hd := sdims hC
  have x3 : (mI M (q (l + 1) 0) 3) - 1 = nI S.length := by
    rw [t3, List.length_append, List.length_singleton]; exact nI_pred _
  simp only [List.map_append, List.map_cons, List.map_nil] at tb tz th ta
  have eb := Ar_last tb
  have ez := Ar_last tz
  have eh := Ar_last th
  rw [List.length_map] at eb ez eh
  unfold f_X8_addBatch
  rw [x3]
  refine ⟨sk_t_0 hC l hl, fun x2 e2 => ?_⟩
  subst e2
  rw [nI_clamp (by omega)]
  refine ⟨_, sr_t_4 hR l hl, sk_t_1 hC l hl, by rw [sn_t_1 hC l hl]; exact vp_in_nI hS (by decide), _, sr_t_5 hR l hl, sk_t_2 hC l hl, by rw [sn_t_2 hC l hl]; exact vp_in_nI hS (by decide), fun x9 e9 => ?_⟩
  rw [eb, ez, show (1024 : Int32) = nI 1024 from rfl, pk_mul, nI_add] at e9
  subst e9
  refine ⟨_, sr_t_8 hR l hl, sk_t_4 hC l hl, ?_, fun M13 e13 M14 e14 => ?_⟩
  · rw [t7, sn_t_4 hC l hl]; exact vp_in_nI hP (by omega)
  rw [t7, nI_clamp (by omega)] at e13
  subst e13
  rw [I_ne hC _ _ (by omega), t7, nI_1] at e14
  subst e14
  simp only [mR_sI]
  refine ⟨_, sr_t_5 hR l hl, sk_t_2 hC l hl, by rw [sn_t_2 hC l hl]; exact vp_in_nI hS (by decide), by rw [sn_t_2 hC l hl]; exact vp_in_nI hS (by decide), fun M19 e19 => ?_⟩
  rw [I_ne hC _ _ (by omega), I_ne hC _ _ (by omega), ez, nI_add] at e19
  subst e19
  simp only [mR_sI]
  refine ⟨_, sr_t_6 hR l hl, sk_t_3 hC l hl, by rw [sn_t_3 hC l hl]; exact vp_in_nI hS (by decide), by rw [sn_t_3 hC l hl]; exact vp_in_nI hS (by decide), fun M24 e24 => ?_⟩
  rw [I_ne hC _ _ (by omega), I_ne hC _ _ (by omega), I_ne hC _ _ (by omega), eh, nI_1] at e24
  subst e24
  refine h _ ?_ rfl ?_ ?_ (fun j hj => by rw [I_ne hC _ _ (by omega), I_ne hC _ _ (by omega), I_ne hC _ _ (by omega), mI_sI_self]; exact m1_nat _ _ hj)
  · exact Fr_trans (Fr_trans (Fr_trans (Fr_sI _ _ _ _ rfl) (Fr_sI _ _ _ _ rfl)) (Fr_sI _ _ _ _ rfl)) (Fr_sI _ _ _ _ rfl)
  · rw [I_ne hC _ _ (by omega), I_ne hC _ _ (by omega), mI_sI_self]; simp [m1]
  · unfold TabM TabR
    rw [PS_last]
    have r0 : ∀ (f2 f3 f0 f4 : Nat → Int32) (M0 : Mm), mI (sI (sI (sI (sI M0 (q (l + 1) 4) f4) (q (l + 1) 0) f0) (q (l + 1) 2) f2) (q (l + 1) 3) f3) (q (l + 1) 0) = f0 := fun f2 f3 f0 f4 M0 => by
      rw [I_ne hC _ _ (by omega), I_ne hC _ _ (by omega), mI_sI_self]
    have r1 : ∀ (f2 f3 f0 f4 : Nat → Int32) (M0 : Mm), mI (sI (sI (sI (sI M0 (q (l + 1) 4) f4) (q (l + 1) 0) f0) (q (l + 1) 2) f2) (q (l + 1) 3) f3) (q (l + 1) 1) = mI M0 (q (l + 1) 1) := fun f2 f3 f0 f4 M0 => by
      rw [I_ne hC _ _ (by omega), I_ne hC _ _ (by omega), I_ne hC _ _ (by omega), I_ne hC _ _ (by omega)]
    have r2 : ∀ (f2 f3 f0 f4 : Nat → Int32) (M0 : Mm), mI (sI (sI (sI (sI M0 (q (l + 1) 4) f4) (q (l + 1) 0) f0) (q (l + 1) 2) f2) (q (l + 1) 3) f3) (q (l + 1) 2) = f2 := fun f2 f3 f0 f4 M0 => by
      rw [I_ne hC _ _ (by omega), mI_sI_self]
    have r4 : ∀ (f2 f3 f0 f4 : Nat → Int32) (M0 : Mm), mI (sI (sI (sI (sI M0 (q (l + 1) 4) f4) (q (l + 1) 0) f0) (q (l + 1) 2) f2) (q (l + 1) 3) f3) (q (l + 1) 4) = f4 := fun f2 f3 f0 f4 M0 => by
      rw [I_ne hC _ _ (by omega), I_ne hC _ _ (by omega), I_ne hC _ _ (by omega), mI_sI_self]
    rw [r0, r1, r2, r4, mI_sI_self]
    simp only [List.map_append, List.map_cons, List.map_nil, List.length_append, List.length_singleton]
    rw [List.length_append, List.length_singleton] at t3
    refine ⟨by simp [m1, t3], by simp [m1], tb, ?_, ?_, ?_⟩
    · have := Ar_set tz (sz (k, bs) + b.length); rw [List.length_map] at this; rw [sz_add]; exact this
    · have := Ar_set th (bs.length + 1); rw [List.length_map] at this; exact this
    · have ta' : Ar (mI M (q (l + 1) 4)) ((PS (S ++ [(k, bs)])).map (fun p => p.1)) := ta
      have := Ar_snoc ta' (k * 1024 + sz (k, bs)); rw [List.length_map] at this; exact this
theorem flat_at {α : Type} {X : List (List α)} {s k : Nat} {g : List α} {b : α} (hg : X[s]? = some g) (hb : g[k]? = some b) : ∃ r, X.flatten = ((X.take s).flatten ++ g.take k) ++ b :: r := by
  obtain ⟨h1, e1⟩ := List.getElem?_eq_some_iff.mp hg
  obtain ⟨h2, e2⟩ := List.getElem?_eq_some_iff.mp hb
  refine ⟨g.drop (k + 1) ++ (X.drop (s + 1)).flatten, ?_⟩
  have x1 : X = X.take s ++ g :: X.drop (s + 1) := by
    rw [← e1, ← List.drop_eq_getElem_cons h1, List.take_append_drop]
  have x2 : g = g.take k ++ b :: g.drop (k + 1) := by
    rw [← e2, ← List.drop_eq_getElem_cons h2, List.take_append_drop]
  have x3 : X.flatten = (X.take s).flatten ++ (g ++ (X.drop (s + 1)).flatten) := by
    rw [← List.flatten_cons, ← List.flatten_append, ← x1]
  rw [x3]
  conv => lhs; arg 2; rw [x2]
  simp
theorem flat_s {α : Type} {X : List (List α)} {s : Nat} {g : List α} (hg : X[s]? = some g) : (X.take (s + 1)).flatten = (X.take s).flatten ++ g := by
  rw [take_s hg]; simp
theorem tot_app (x y : List Bt) : tot (x ++ y) = tot x + tot y := by simp [tot]
theorem tot_cons (b : Bt) (x : List Bt) : tot (b :: x) = b.length + tot x := by simp [tot]
theorem pbs_mid {x y : List Bt} {b : Bt} : (tot x, b) ∈ pbs 0 (x ++ b :: y) := by
  rw [pbs_app, List.mem_append]
  refine Or.inr ?_
  rw [Nat.zero_add]
  exact List.mem_cons_self ..
theorem zip_ix {ks : List Nat} {X : List (List Bt)} (h : ks.length = X.length) {s : Nat} (hs : s < X.length) : ∃ k g, ks[s]? = some k ∧ X[s]? = some g ∧ (ks.zip X)[s]? = some (k, g) := by
  obtain ⟨k, hk⟩ := lt_some (show s < ks.length by omega)
  obtain ⟨g, hg⟩ := lt_some hs
  refine ⟨k, g, hk, hg, ?_⟩
  rw [List.getElem?_zip_eq_some]
  exact ⟨hk, hg⟩
theorem zip_BS {ks : List Nat} {X : List (List Bt)} (h : ks.length = X.length) : BS (ks.zip X) = X.flatten := by
  unfold BS
  rw [List.flatMap_def]
  have : (ks.zip X).map (fun s : Sg => s.2) = X := List.map_snd_zip (by omega)
  rw [this]
theorem PS_len2 (T : List Sg) (k : Nat) (bs : List Bt) : (PS (T ++ [(k, bs)])).length = (PS T).length + bs.length := by
  rw [PS_app, PS_1, List.length_append, pbs_len]
theorem c_replace {Y : Ly} {q : Nat → Nat → Nat} {nL W nB : Nat} {M : Mm} {l : Nat} {Sc : List Sg} {so : Sg} {ks : List Nat} {X : List (List Bt)} {Kn : Mm → Prop} (hC : SC Y q nL W nB) (hR : SR q nL (mR M)) (hl : l ≤ nL) (hT : TabM q l M (Sc ++ [so])) (hSc : Sc.length < 60) (hX : X.length ≤ Sc.length) (hks : ks.length = X.length) (hK : PK q M X) (hA : Ar (mI M (q 0 23)) ks) (hsz : ∀ b, b ∈ X.flatten → 61 ≤ b.length ∧ b_sizeOf (fB b) 0 = nI b.length) (hXt : tot X.flatten ≤ nB * 1024) (hXn : X.flatten.length ≤ (PS Sc).length) (hn : (PS (Sc ++ [so])).length ≤ nB * 1024 / 61) (ho : ∀ p, p ∈ PS (Sc ++ [so]) → Lie (mI M (q 0 11)) p.1 p.2 ∧ p.1 + p.2.length ≤ nB * 1024 ∧ BatOK p.2)
    (h : ∀ M', Fr q (fun a _ => a = l + 1) M M' → mJ M' = mJ M → mI M' (q (l + 1) 0) 0 = mI M (q (l + 1) 0) 0 → TabM q l M' (ks.zip X ++ [so]) → Kn M') : f_X2_replaceClosed Y (q 0 18) (q (l + 1) 0) M Kn := by
  have hd := sdims hC
  have n11 := sn_0_11 hC
  have n22 := sn_0_22 hC
  obtain ⟨t3, t7, tb, tz, th, ta⟩ := hT
  obtain ⟨k9, k7, k24, k25, k22⟩ := hK
  have ezl : (ks.zip X).length = X.length := by rw [List.length_zip]; omega
  have ePT : (PS (ks.zip X)).length = X.flatten.length := by rw [PS_len, zip_BS hks]
  have ePS : (PS (Sc ++ [so])).length = (PS Sc).length + so.2.length := PS_len2 Sc so.1 so.2
  simp only [List.map_append, List.map_cons, List.map_nil] at tb tz th
  have eb := Ar_last tb
  have eh := Ar_last th
  rw [List.length_map] at eb eh
  rw [List.length_append, List.length_singleton] at t3
  unfold f_X2_replaceClosed f_X8_clear
  rw [t3, nI_pred, t7]
  refine ⟨sk_t_0 hC l hl, fun x2 e2 => ?_⟩
  subst e2
  rw [nI_clamp (by omega)]
  refine ⟨_, sr_t_4 hR l hl, sk_t_1 hC l hl, by rw [sn_t_1 hC l hl]; exact vp_in_nI hSc (by decide), fun x6 e6 => ⟨_, sr_t_6 hR l hl, sk_t_3 hC l hl, by rw [sn_t_3 hC l hl]; exact vp_in_nI hSc (by decide), fun x10 e10 x11 e11 => ⟨sk_t_0 hC l hl, fun M2 e2 M3 e3 => ?_⟩⟩⟩
  rw [eb] at e6
  rw [eh] at e10
  rw [e10, pk_sub (by omega), show (PS (Sc ++ [so])).length - so.2.length = (PS Sc).length from by omega] at e11
  subst e6 e10 e11
  have F3 : Fr q (fun a _ => a = l + 1) M M3 := by
    rw [e3, e2]; exact Fr_trans (Fr_sI _ _ _ _ rfl) (Fr_sI _ _ _ _ rfl)
  have J3 : mJ M3 = mJ M := by rw [e3, e2]; rfl
  have t0 : mI M3 (q (l + 1) 0) = m1 (m1 (mI M (q (l + 1) 0)) 3 0) 7 0 := by rw [e3, mI_sI_self, e2, mI_sI_self]
  have r3 : ∀ c, c ≠ 0 → mI M3 (q (l + 1) c) = mI M (q (l + 1) c) := fun c hc => by rw [e3, I_ne hC _ _ (by omega), e2, I_ne hC _ _ (by omega)]
  have T3 : TabM q l M3 ((ks.zip X).take 0) := by
    rw [List.take_zero]
    refine ⟨by rw [t0]; rfl, by rw [t0]; rfl, Ar_nil _, Ar_nil _, Ar_nil _, Ar_nil _⟩
  have keep : ∀ {M' : Mm} {c : Nat}, Fr q (fun a _ => a = l + 1) M M' → mI M' (q 0 c) = mI M (q 0 c) := fun F => Fr_I hC F (by omega)
  refine LOOP3_inv (fun x13 x14 M15 => ∃ s, s ≤ X.length ∧ x14 = nI s ∧ x13 = nI (tot (X.take s).flatten) ∧ Fr q (fun a _ => a = l + 1) M M15 ∧ mJ M15 = mJ M ∧ mI M15 (q (l + 1) 0) 0 = mI M (q (l + 1) 0) 0 ∧ TabM q l M15 ((ks.zip X).take s) ∧ ∀ j, (X.take s).flatten.length ≤ j → mI M15 (q (l + 1) 4) j = mI M (q (l + 1) 4) j) (fun _ x14 _ => X.length - x14.toNatClampNeg) ?_ _ _ _ ⟨0, by omega, rfl, rfl, F3, J3, by rw [t0]; rfl, T3, fun j _ => by rw [r3 4 (by decide)]⟩
  rintro x13 x14 M15 again ⟨s, hs, rfl, rfl, F, J, z0, tb, fa⟩ hag
  have hR15 : SR q nL (mR M15) := by rw [F.2]; exact hR
  have tl1 : ((ks.zip X).take s).length = s := by rw [List.length_take]; omega
  unfold L_X2_replaceClosed_41
  rw [keep F, k9, nI_cmp (by omega) (by omega)]
  refine ⟨sk_0_18 hC, fun c => ?_, fun c => ?_⟩
  · have es : s = X.length := by omega
    subst es
    rw [List.take_of_length_le (by omega)] at tb
    rw [List.take_of_length_le (Nat.le_refl _)] at fa
    refine c_addSegment2 hC hR15 hl tb (by omega) (fun M18 F18 J18 z18 T18 a18 => ?_)
    have F18' := Fr_trans F F18
    refine LOOP2_inv (fun x19 M20 => ∃ k, k ≤ so.2.length ∧ x19 = nI k ∧ Fr q (fun a _ => a = l + 1) M M20 ∧ mJ M20 = mJ M ∧ mI M20 (q (l + 1) 0) 0 = mI M (q (l + 1) 0) 0 ∧ TabM q l M20 (ks.zip X ++ [(so.1, so.2.take k)]) ∧ ∀ j, X.flatten.length + k ≤ j → mI M20 (q (l + 1) 4) j = mI M (q (l + 1) 4) j) (fun x19 _ => so.2.length - x19.toNatClampNeg) ?_ _ _ ⟨0, by omega, rfl, F18', by rw [J18, J], by rw [z18, z0], T18, fun j hj => by rw [a18]; exact fa j (by omega)⟩
    rintro x19 M20 ag ⟨k, hk, rfl, F20, J20, z20, T20, a20⟩ hag2
    have hR20 : SR q nL (mR M20) := by rw [F20.2]; exact hR
    unfold L_X2_replaceClosed_121
    rw [nI_cmp (by omega) (by omega)]
    refine ⟨fun c2 => ?_, fun c2 => ?_⟩
    · rw [List.take_of_length_le (by omega)] at T20
      exact h _ F20 J20 z20 T20
    · obtain ⟨b, hb⟩ := lt_some (show k < so.2.length by omega)
      have hix : (PS (Sc ++ [so]))[(PS Sc).length + k]? = some (so.1 * 1024 + tot (so.2.take k), b) := by
        have := PS_ix (S := Sc ++ [so]) (s := Sc.length) (k := k) (g := so) (b := b) (by simp) hb
        rwa [List.take_append_of_le_length (Nat.le_refl _), List.take_length] at this
      obtain ⟨o1, o2, o3⟩ := ho _ (List.mem_of_getElem? hix)
      have eat : mI M20 (q (l + 1) 4) ((PS Sc).length + k) = nI (so.1 * 1024 + tot (so.2.take k)) := by
        rw [a20 _ (by omega)]; exact Ar_map ta hix
      refine ⟨_, sr_0_18_1 hR20, _, sr_t_8 hR20 l hl, sk_t_4 hC l hl, ?_, ?_⟩
      · rw [nI_add, sn_t_4 hC l hl]; exact vp_in_nI (by omega) (by omega)
      · have o1' : Lie (mI M20 (q 0 11)) (so.1 * 1024 + tot (so.2.take k)) b := by rw [keep F20]; exact o1
        have b61 := o3.1
        simp only at o2 b61
        rw [nI_add, nI_clamp (by omega), eat]
        refine s_sizeOf (sk_0_11 hC) (by omega) (by omega) ?_
        rw [sz_B o1' o3]
        refine c_addBatch2 hC hR20 hl T20 (by omega) (by rw [PS_len2, ePT, List.length_take]; omega) (fun M28 F28 J28 z28 T28 a28 => ?_)
        intro x30 e30
        rw [nI_1] at e30
        subst e30
        rw [← take_s hb] at T28
        rw [PS_len2, ePT, List.length_take] at a28
        refine hag2 _ _ ⟨k + 1, by omega, rfl, Fr_trans F20 F28, by rw [J28, J20], by rw [z28, z20], T28, fun j hj => ?_⟩ (by rw [nI_clamp (by omega), nI_clamp (by omega)]; omega)
        rw [a28 j (by omega)]; exact a20 j (by omega)
  · obtain ⟨k, g, hk, hg, hz⟩ := zip_ix hks (show s < X.length by omega)
    refine ⟨_, sr_0_18_10 hR15, sk_0_23 hC, by rw [sn_0_23 hC]; exact vp_in_nI (by omega) (by decide), ?_⟩
    rw [nI_clamp (by omega), keep F, Ar_at hA hk]
    refine c_addSegment2 hC hR15 hl tb (by omega) (fun M34 F34 J34 z34 T34 a34 => ?_)
    have F34' := Fr_trans F F34
    have e25 : mI M (q 0 25) s = nI g.length := Ar_map k25 hg
    have hgl : (X.take s).flatten.length + g.length ≤ X.flatten.length := by
      have x1 : X.flatten = (X.take (s + 1)).flatten ++ (X.drop (s + 1)).flatten := by rw [← List.flatten_append, List.take_append_drop]
      rw [x1, flat_s hg, List.length_append, List.length_append]; omega
    have ePt : ∀ m, m ≤ X.length → (PS ((ks.zip X).take m)).length = (X.take m).flatten.length := fun m hm => by
      have : (ks.zip X).take m = (ks.take m).zip (X.take m) := List.take_zipWith
      rw [this, PS_len, zip_BS (by rw [List.length_take, List.length_take, hks])]
    refine LOOP3_inv (fun x35 x36 M37 => ∃ m, m ≤ g.length ∧ x36 = nI m ∧ x35 = nI (tot ((X.take s).flatten ++ g.take m)) ∧ Fr q (fun a _ => a = l + 1) M M37 ∧ mJ M37 = mJ M ∧ mI M37 (q (l + 1) 0) 0 = mI M (q (l + 1) 0) 0 ∧ TabM q l M37 ((ks.zip X).take s ++ [(k, g.take m)]) ∧ ∀ j, (X.take s).flatten.length + m ≤ j → mI M37 (q (l + 1) 4) j = mI M (q (l + 1) 4) j) (fun _ x36 _ => g.length - x36.toNatClampNeg) ?_ _ _ _ ⟨0, by omega, rfl, by simp, F34', by rw [J34, J], by rw [z34, z0], T34, fun j hj => by rw [a34]; exact fa j (by omega)⟩
    rintro x35 x36 M37 ag ⟨m, hm, rfl, rfl, F37, J37, z37, T37, a37⟩ hag2
    have hR37 : SR q nL (mR M37) := by rw [F37.2]; exact hR
    unfold L_X2_replaceClosed_64
    refine ⟨_, sr_0_18_12 hR37, sk_0_25 hC, by rw [sn_0_25 hC]; exact vp_in_nI (by omega) (by decide), ?_⟩
    rw [nI_clamp (by omega), keep F37, e25, nI_cmp (by omega) (by omega)]
    refine ⟨fun c2 x42 e42 => ?_, fun c2 => ?_⟩
    · rw [nI_1] at e42
      subst e42
      rw [List.take_of_length_le (show g.length ≤ m by omega)] at T37 
      rw [List.take_of_length_le (show g.length ≤ m by omega)]
      refine hag _ _ _ ⟨s + 1, by omega, rfl, by rw [flat_s hg], F37, J37, z37, by rw [take_s hz]; exact T37, fun j hj => ?_⟩ (by rw [nI_clamp (by omega), nI_clamp (by omega)]; omega)
      rw [flat_s hg, List.length_append] at hj
      exact a37 j (by omega)
    · obtain ⟨b, hb⟩ := lt_some (show m < g.length by omega)
      obtain ⟨r, er⟩ := flat_at hg hb
      have hmem : (tot ((X.take s).flatten ++ g.take m), b) ∈ pbs 0 X.flatten := by rw [er]; exact pbs_mid
      have hlie := k22 _ hmem
      obtain ⟨b61, bsz⟩ := hsz b (by rw [er]; simp)
      have htt : tot ((X.take s).flatten ++ g.take m) + b.length ≤ tot X.flatten := by rw [er]; simp only [tot_app, tot_cons]; omega
      refine ⟨_, sr_0_18_6 hR37, s_sizeOf (sk_0_22 hC) (by omega) (by omega) ?_⟩
      rw [keep F37, sz_fB hlie b61, bsz]
      refine c_addBatch2 hC hR37 hl T37 (by omega) (by rw [PS_len2, ePt s hs, List.length_take]; omega) (fun M46 F46 J46 z46 T46 a46 => ?_)
      intro x48 e48 x49 e49
      rw [nI_add] at e48
      rw [nI_1] at e49
      subst e48 e49
      rw [← take_s hb] at T46
      rw [PS_len2, ePt s hs, List.length_take] at a46
      refine hag2 _ _ _ ⟨m + 1, by omega, rfl, by rw [take_s hb, ← List.append_assoc, tot_s], Fr_trans F37 F46, by rw [J46, J37], by rw [z46, z37], T46, fun j hj => ?_⟩ (by rw [nI_clamp (by omega), nI_clamp (by omega)]; omega)
      rw [a46 j (by omega)]; exact a37 j (by omega)
