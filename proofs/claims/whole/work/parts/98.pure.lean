/-! retention -/
def rtG (b : Nat) : Nat → List Sg → Nat
  | _, [] => 0
  | _, [_] => 0
  | rest, s :: t :: r => if b ≤ rest - sz s then 1 + rtG b (rest - sz s) (t :: r) else 0
theorem rtG_lt (b : Nat) : ∀ (S : List Sg) (rest : Nat), S ≠ [] → rtG b rest S < S.length
  | [], _, h => absurd rfl h
  | [s], _, _ => by simp [rtG]
  | s :: t :: r, rest, _ => by
    simp only [rtG]
    split
    · have := rtG_lt b (t :: r) (rest - sz s) (by simp)
      simp only [List.length_cons] at this ⊢; omega
    · simp
def RetR (l b : Nat) (st : Nat → Int64) (L : LSt) (st' : Nat → Int64) (L' : LSt) (r : Int32) : Prop :=
  (rtG b (szs (lS L l)) (lS L l) = 0 ∧ st' = st ∧ L' = L ∧ r = 0) ∨ (¬ rtG b (szs (lS L l)) (lS L l) = 0 ∧ ∃ l' ad dn full b0 bs, BS ((lS L l).drop (rtG b (szs (lS L l)) (lS L l))) = b0 :: bs ∧ SpR (lL L) 1 l' ad dn full ∧ st' = m1 st l (baB b0) ∧ L' = (lE L, m1 (lS L) l ((lS L l).drop (rtG b (szs (lS L l)) (lS L l))), l', lW L + nI ad, dn) ∧ r = if dn = 0 then nI (rtG b (szs (lS L l)) (lS L l)) else -3)
theorem RetR_fun {l b : Nat} {st st1 st2 : Nat → Int64} {L L1 L2 : LSt} {r1 r2 : Int32} (h : RetR l b st L st1 L1 r1) (h' : RetR l b st L st2 L2 r2) : st1 = st2 ∧ L1 = L2 ∧ r1 = r2 := by
  rcases h with ⟨a, b, c, d⟩ | ⟨a, l', ad, dn, full, b0, bs, h1, h2, h3, h4, h5⟩ <;> rcases h' with ⟨a', b', c', d'⟩ | ⟨a', l2, ad', dn', full', b0', bs', h1', h2', h3', h4', h5'⟩
  · exact ⟨b.trans b'.symm, c.trans c'.symm, d.trans d'.symm⟩
  · exact absurd a a'
  · exact absurd a' a
  · obtain ⟨rfl, rfl, rfl, _⟩ := SpR_fun h2 h2'
    rw [h1] at h1'
    cases h1'
    exact ⟨h3.trans h3'.symm, h4.trans h4'.symm, h5.trans h5'.symm⟩
theorem SpR_1 {left left' : Int32} {ad : Nat} {dn : Int32} {full : Prop} (h : SpR left 1 left' ad dn full) : full := by
  rcases h with ⟨_, _, _, _, f⟩ | ⟨L, _, _, _, _, _, _, f⟩ | ⟨L, a, b, _, _, _, _, _, f⟩
  · exact f
  · exact f
  · exact f.mpr (by omega)
theorem Ar_drop {f g : Nat → Int32} {xs : List Nat} {n : Nat} (h : Ar f xs) (hg : ∀ j, j < xs.length - n → g j = f (n + j)) : Ar g (xs.drop n) := by
  intro i hi
  rw [List.length_drop] at hi
  rw [hg i hi, h (n + i) (by omega)]
  congr 1
  rw [List.getD_eq_getElem?_getD, List.getD_eq_getElem?_getD, List.getElem?_drop]
theorem PS_tk (S : List Sg) (n : Nat) : PS (S.drop n) = (PS S).drop (PS (S.take n)).length := by
  have : PS S = PS (S.take n) ++ PS (S.drop n) := by rw [← PS_app, List.take_append_drop]
  rw [this, List.drop_left]
theorem PS_s {S : List Sg} {i : Nat} {s : Sg} (h : S[i]? = some s) : (PS (S.take (i + 1))).length = (PS (S.take i)).length + s.2.length := by
  rw [take_s h, PS_app, List.length_append, PS_1, pbs_len]
theorem cpy0 (f : Nat → Int32) (n m j : Nat) (h : j < m) : va_cpy f f n 0 m j = f (n + j) := by
  unfold va_cpy
  rw [if_pos (by omega)]; congr 1
theorem c_dropFirst {Y : Ly} {q : Nat → Nat → Nat} {nL W nB : Nat} {M : Mm} {S : List Sg} {l c : Nat} {Kn : Mm → Prop} (hC : SC Y q nL W nB) (hR : SR q nL (mR M)) (hl : l ≤ nL) (hT : TabM q l M S) (hS : S.length ≤ 60) (hP : (PS S).length ≤ nB * 1024 / 61) (hc : c ≤ S.length) (h : ∀ M', Fr q (fun a _ => a = l + 1) M M' → mJ M' = mJ M → mI M' (q (l + 1) 0) 0 = mI M (q (l + 1) 0) 0 → TabM q l M' (S.drop c) → Kn M') : f_X8_dropFirst Y (q (l + 1) 0) (nI c) M Kn := by
  have hd := sdims hC
  obtain ⟨t3, t7, a1, a2, a3, a4⟩ := hT
  have n1 := sn_t_1 hC l hl
  have n2 := sn_t_2 hC l hl
  have n3 := sn_t_3 hC l hl
  have n4 := sn_t_4 hC l hl
  have hPc : ∀ i, (PS (S.take i)).length ≤ (PS S).length := fun i => by
    have : PS S = PS (S.take i) ++ PS (S.drop i) := by rw [← PS_app, List.take_append_drop]
    rw [this, List.length_append]; omega
  have hpl : (PS S).length < 2 ^ 31 := by omega
  unfold f_X8_dropFirst
  refine LOOP2_inv (fun x1 x2 => ∃ i, i ≤ c ∧ x2 = nI i ∧ x1 = nI (PS (S.take i)).length) (fun _ x2 => c - x2.toNatClampNeg) ?_ _ _ ⟨0, by omega, rfl, rfl⟩
  rintro x1 x2 again ⟨i, hi, rfl, rfl⟩ hag
  have hPi := hPc i
  unfold L_X8_dropFirst_4
  rw [nI_cmp (by omega) (by omega)]
  refine ⟨fun g => ?_, fun g => ?_⟩
  · have hic : i = c := by omega
    subst hic
    have e7 : mI M (q (l + 1) 0) 7 - nI (PS (S.take i)).length = nI ((PS S).length - (PS (S.take i)).length) := by rw [t7]; exact pk_sub hPi
    rw [e7]
    refine ⟨sk_t_0 hC l hl, _, sr_t_8 hR l hl, _, sr_t_8 hR l hl, sk_t_4 hC l hl, sk_t_4 hC l hl, ⟨nI_pos (by omega), by decide, nI_pos (by omega), ?_, ?_⟩, fun M10 e10 M11 e11 => ?_⟩
    · rw [nI_clamp (by omega), nI_clamp (by omega), n4]; omega
    · rw [nI_clamp (by omega), n4]; show 0 + _ ≤ _; omega
    have i10 : mI M10 (q (l + 1) 0) = mI M (q (l + 1) 0) := by rw [e10]; exact I_ne hC _ _ (by omega)
    rw [i10, e7] at e11
    have i11 : mI M11 (q (l + 1) 0) = m1 (mI M (q (l + 1) 0)) 7 (nI ((PS S).length - (PS (S.take i)).length)) := by rw [e11, mI_sI_self]
    have e3 : mI M11 (q (l + 1) 0) 3 - nI i = nI (S.length - i) := by rw [i11]; simp only [m1]; rw [if_neg (by decide), t3]; exact pk_sub hc
    have R11 : mR M11 = mR M := by rw [e11, e10]; rfl
    have hR11 : SR q nL (mR M11) := by rw [R11]; exact hR
    have cnd : ∀ b, yN Y b = 60 → ((¬ nI i < 0) ∧ (¬ (0 : Int32) < 0) ∧ (¬ nI (S.length - i) < 0) ∧ (nI i).toNatClampNeg + (nI (S.length - i)).toNatClampNeg ≤ yN Y b ∧ (0 : Int32).toNatClampNeg + (nI (S.length - i)).toNatClampNeg ≤ yN Y b) := by
      intro b hb
      rw [hb, nI_clamp (by omega), nI_clamp (by omega)]
      exact ⟨nI_pos (by omega), by decide, nI_pos (by omega), by omega, by show 0 + _ ≤ _; omega⟩
    refine ⟨_, sr_t_4 hR11 l hl, _, sr_t_4 hR11 l hl, sk_t_1 hC l hl, sk_t_1 hC l hl, ?_⟩
    rw [e3]
    refine ⟨cnd _ n1, fun M17 e17 => ⟨q (l + 1) 2, by rw [e17]; exact sr_t_5 hR11 l hl, q (l + 1) 2, by rw [e17]; exact sr_t_5 hR11 l hl, sk_t_2 hC l hl, sk_t_2 hC l hl, ?_⟩⟩
    have i17 : mI M17 (q (l + 1) 0) = mI M11 (q (l + 1) 0) := by rw [e17]; exact I_ne hC _ _ (by omega)
    rw [i17, e3]
    refine ⟨cnd _ n2, fun M23 e23 => ⟨q (l + 1) 3, by rw [e23, e17]; exact sr_t_6 hR11 l hl, q (l + 1) 3, by rw [e23, e17]; exact sr_t_6 hR11 l hl, sk_t_3 hC l hl, sk_t_3 hC l hl, ?_⟩⟩
    have i23 : mI M23 (q (l + 1) 0) = mI M11 (q (l + 1) 0) := by rw [e23, I_ne hC _ _ (by omega)]; exact i17
    rw [i23, e3]
    refine ⟨cnd _ n3, fun M29 e29 M30 e30 => ?_⟩
    have i29 : mI M29 (q (l + 1) 0) = mI M11 (q (l + 1) 0) := by rw [e29, I_ne hC _ _ (by omega)]; exact i23
    rw [i29, e3] at e30
    rw [nI_clamp (by omega), nI_clamp (by omega)] at e17 e23 e29 e10
    have z0 : mI M30 (q (l + 1) 0) = m1 (m1 (mI M (q (l + 1) 0)) 7 (nI ((PS S).length - (PS (S.take i)).length))) 3 (nI (S.length - i)) := by rw [e30, mI_sI_self, i11]
    have z4 : mI M30 (q (l + 1) 4) = va_cpy (mI M (q (l + 1) 4)) (mI M (q (l + 1) 4)) (PS (S.take i)).length 0 ((PS S).length - (PS (S.take i)).length) := by
      rw [e30, I_ne hC _ _ (by omega), e29, I_ne hC _ _ (by omega), e23, I_ne hC _ _ (by omega), e17, I_ne hC _ _ (by omega), e11, I_ne hC _ _ (by omega), e10, mI_sI_self]; rfl
    have z1 : mI M30 (q (l + 1) 1) = va_cpy (mI M (q (l + 1) 1)) (mI M (q (l + 1) 1)) i 0 (S.length - i) := by
      have : mI M11 (q (l + 1) 1) = mI M (q (l + 1) 1) := by rw [e11, I_ne hC _ _ (by omega), e10, I_ne hC _ _ (by omega)]
      rw [e30, I_ne hC _ _ (by omega), e29, I_ne hC _ _ (by omega), e23, I_ne hC _ _ (by omega), e17, mI_sI_self, this]; rfl
    have z2 : mI M30 (q (l + 1) 2) = va_cpy (mI M (q (l + 1) 2)) (mI M (q (l + 1) 2)) i 0 (S.length - i) := by
      have : mI M17 (q (l + 1) 2) = mI M (q (l + 1) 2) := by rw [e17, I_ne hC _ _ (by omega), e11, I_ne hC _ _ (by omega), e10, I_ne hC _ _ (by omega)]
      rw [e30, I_ne hC _ _ (by omega), e29, I_ne hC _ _ (by omega), e23, mI_sI_self, this]; rfl
    have z3 : mI M30 (q (l + 1) 3) = va_cpy (mI M (q (l + 1) 3)) (mI M (q (l + 1) 3)) i 0 (S.length - i) := by
      have : mI M23 (q (l + 1) 3) = mI M (q (l + 1) 3) := by rw [e23, I_ne hC _ _ (by omega), e17, I_ne hC _ _ (by omega), e11, I_ne hC _ _ (by omega), e10, I_ne hC _ _ (by omega)]
      rw [e30, I_ne hC _ _ (by omega), e29, mI_sI_self, this]; rfl
    have F : Fr q (fun a _ => a = l + 1) M M30 := Fr_trans (Fr_e e10 rfl) (Fr_trans (Fr_e e11 rfl) (Fr_trans (Fr_e e17 rfl) (Fr_trans (Fr_e e23 rfl) (Fr_trans (Fr_e e29 rfl) (Fr_e e30 rfl)))))
    refine h M30 F (by rw [e30, e29, e23, e17, e11, e10]; rfl) (by rw [z0]; simp [m1]) ⟨?_, ?_, ?_, ?_, ?_, ?_⟩
    · rw [z0, List.length_drop]; simp [m1]
    · rw [z0, PS_tk, List.length_drop]; simp [m1]
    · rw [z1, List.map_drop]; exact Ar_drop a1 (fun j hj => cpy0 _ _ _ _ (by rwa [List.length_map] at hj))
    · rw [z2, List.map_drop]; exact Ar_drop a2 (fun j hj => cpy0 _ _ _ _ (by rwa [List.length_map] at hj))
    · rw [z3, List.map_drop]; exact Ar_drop a3 (fun j hj => cpy0 _ _ _ _ (by rwa [List.length_map] at hj))
    · rw [z4, PS_tk, List.map_drop]; exact Ar_drop a4 (fun j hj => cpy0 _ _ _ _ (by rwa [List.length_map] at hj))
  · obtain ⟨s, hs⟩ := lt_some (show i < S.length by omega)
    refine ⟨sk_t_0 hC l hl, _, sr_t_6 hR l hl, sk_t_3 hC l hl, by rw [n3]; exact vp_in_nI (by omega) (by omega), fun x35 e35 x36 e36 => ?_⟩
    rw [nI_clamp (by omega), Ar_map a3 hs, nI_add, ← PS_s hs] at e35
    rw [nI_1] at e36
    subst e35 e36
    refine hag _ _ ⟨i + 1, by omega, rfl, rfl⟩ ?_
    rw [nI_clamp (by omega), nI_clamp (by omega)]; omega
