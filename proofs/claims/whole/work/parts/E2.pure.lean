/-! the class packs what stays -/
def PK (q : Nat → Nat → Nat) (M : Mm) (X : List (List Bt)) : Prop := mI M (q 0 18) 9 = nI X.length ∧ mI M (q 0 18) 7 = nI (tot X.flatten) ∧ Ar (mI M (q 0 24)) (X.map tot) ∧ Ar (mI M (q 0 25)) (X.map List.length) ∧ ∀ p, p ∈ pbs 0 X.flatten → Lie (mI M (q 0 22)) p.1 p.2
def PKp : Nat → Nat → Nat → Prop := fun a b j => a = 0 ∧ ((b = 18 ∧ (j = 7 ∨ j = 9)) ∨ b = 24 ∨ b = 25)
theorem PK_ec {q : Nat → Nat → Nat} {P : Nat → Nat → Nat → Prop} {M M' : Mm} {X : List (List Bt)} (h : PK q M X) (E : Ec q P M M') (h7 : ¬ P 0 18 7) (h9 : ¬ P 0 18 9) (h24 : ∀ j, ¬ P 0 24 j) (h25 : ∀ j, ¬ P 0 25 j) (h22 : ∀ j, j < tot X.flatten → mI M' (q 0 22) j = mI M (q 0 22) j) : PK q M' X := by
  obtain ⟨a, b, c, d, e⟩ := h
  refine ⟨by rw [(E.1 0 18 9 h9).1]; exact a, by rw [(E.1 0 18 7 h7).1]; exact b, by rw [Ec_I E h24]; exact c, by rw [Ec_I E h25]; exact d, fun p hp => Lie_same (e p hp) (fun j h1 h2 => h22 j ?_)⟩
  have := (pbs_hi hp).1
  omega
theorem tot_flat {X : List (List Bt)} {g : List Bt} : tot (X ++ [g]).flatten = tot X.flatten + tot g := by simp [tot]
theorem c_keep64 {Y : Ly} {q : Nat → Nat → Nat} {nL W nB : Nat} {M : Mm} {X0 : List (List Bt)} {g : List Bt} {b : Bt} {Kn : Mm → Prop} (hC : SC Y q nL W nB) (hR : SR q nL (mR M)) (hX : X0.length < 60) (hK : PK q M (X0 ++ [g])) (hb : Lie (mI M (q 0 22)) (tot (X0 ++ [g]).flatten) b)
    (h : ∀ M', Ec q PKp M M' → PK q M' (X0 ++ [g ++ [b]]) → Kn M') : f_X2_keepStaged_64 Y (q 0 18) (nI b.length) Kn M := by
  obtain ⟨k9, k7, k24, k25, k22⟩ := hK
  rw [List.length_append, List.length_singleton] at k9
  simp only [List.map_append, List.map_cons, List.map_nil] at k24 k25
  have e24 := Ar_last k24
  have e25 := Ar_last k25
  rw [List.length_map] at e24 e25
  unfold f_X2_keepStaged_64
  rw [k9, nI_pred, nI_clamp (by omega)]
  refine ⟨_, sr_0_18_11 hR, sk_0_24 hC, by rw [sn_0_24 hC]; exact vp_in_nI hX (by decide), by rw [sn_0_24 hC]; exact vp_in_nI hX (by decide), fun M7 e7 => ?_⟩
  rw [e24, nI_add] at e7
  have i7 : ∀ c, c ≠ 24 → mI M7 (q 0 c) = mI M (q 0 c) := fun c hc => by rw [e7]; exact I_ne hC _ _ (by omega)
  rw [i7 18 (by decide), k9, nI_pred, nI_clamp (by omega)]
  refine ⟨q 0 25, by rw [e7]; exact sr_0_18_12 hR, sk_0_25 hC, by rw [sn_0_25 hC]; exact vp_in_nI hX (by decide), by rw [sn_0_25 hC]; exact vp_in_nI hX (by decide), fun M12 e12 M13 e13 => ?_⟩
  rw [i7 25 (by decide), e25, nI_1] at e12
  have i12 : ∀ c, c ≠ 25 → mI M12 (q 0 c) = mI M7 (q 0 c) := fun c hc => by rw [e12]; exact I_ne hC _ _ (by omega)
  rw [i12 18 (by decide), i7 18 (by decide), k7, nI_add] at e13
  have i13 : ∀ c, c ≠ 18 → mI M13 (q 0 c) = mI M12 (q 0 c) := fun c hc => by rw [e13]; exact I_ne hC _ _ (by omega)
  have et : tot (X0 ++ [g ++ [b]]).flatten = tot (X0 ++ [g]).flatten + b.length := by rw [tot_flat, tot_flat, tot_s]; omega
  refine h _ ?_ ⟨?_, ?_, ?_, ?_, ?_⟩
  · refine Ec_trans (Ec_sIr hC e7 (fun j => ⟨rfl, by omega⟩)) (Ec_trans (Ec_sIr hC e12 (fun j => ⟨rfl, by omega⟩)) ⟨fun a c j hn => ?_, by rw [e13]; rfl⟩)
    refine (Ec_sI (P := PKp) (j := 7) (v := nI (tot (X0 ++ [g]).flatten + b.length)) hC (M := M12) (M' := M13) ?_ ⟨rfl, Or.inl ⟨rfl, Or.inl rfl⟩⟩).1 a c j hn
    rw [e13, i12 18 (by decide), i7 18 (by decide)]
  · rw [e13, mI_sI_self, m1_nat _ _ (by decide), List.length_append, List.length_singleton]; exact k9
  · rw [e13, mI_sI_self, m1_at, et]
  · rw [i13 24 (by decide), i12 24 (by decide), e7, mI_sI_self]
    simp only [List.map_append, List.map_cons, List.map_nil, tot_s]
    have := Ar_set k24 (tot g + b.length)
    rwa [List.length_map] at this
  · rw [i13 25 (by decide), e12, mI_sI_self]
    simp only [List.map_append, List.map_cons, List.map_nil, List.length_append, List.length_singleton]
    have := Ar_set k25 (g.length + 1)
    rwa [List.length_map] at this
  · rw [i13 22 (by decide), i12 22 (by decide), i7 22 (by decide)]
    intro p hp
    rw [show (X0 ++ [g ++ [b]]).flatten = (X0 ++ [g]).flatten ++ [b] from by simp, pbs_s, List.mem_append, List.mem_singleton] at hp
    rcases hp with hp | rfl
    · exact k22 p hp
    · exact hb
theorem c_keep34 {Y : Ly} {q : Nat → Nat → Nat} {nL W nB : Nat} {M : Mm} {X : List (List Bt)} {b : Bt} {Kn : Mm → Prop} (hC : SC Y q nL W nB) (hR : SR q nL (mR M)) (hX : X.length < 60) (hK : PK q M X) (hb : Lie (mI M (q 0 22)) (tot X.flatten) b)
    (h : ∀ M', Ec q PKp M M' → PK q M' (X ++ [[b]]) → Kn M') : f_X2_keepStaged_34 Y (q 0 18) (nI b.length) M Kn := by
  obtain ⟨k9, k7, k24, k25, k22⟩ := hK
  unfold f_X2_keepStaged_34
  rw [k9, nI_clamp (by omega)]
  refine ⟨_, sr_0_18_11 hR, sk_0_24 hC, by rw [sn_0_24 hC]; exact vp_in_nI hX (by decide), fun M17 e17 => ?_⟩
  have i17 : ∀ c, c ≠ 24 → mI M17 (q 0 c) = mI M (q 0 c) := fun c hc => by rw [e17]; exact I_ne hC _ _ (by omega)
  rw [i17 18 (by decide), k9, nI_clamp (by omega)]
  refine ⟨q 0 25, by rw [e17]; exact sr_0_18_12 hR, sk_0_25 hC, by rw [sn_0_25 hC]; exact vp_in_nI hX (by decide), fun M21 e21 M22 e22 => ?_⟩
  have i21 : ∀ c, c ≠ 25 → mI M21 (q 0 c) = mI M17 (q 0 c) := fun c hc => by rw [e21]; exact I_ne hC _ _ (by omega)
  rw [i21 18 (by decide), i17 18 (by decide), k9, nI_1] at e22
  have i22 : ∀ c, c ≠ 18 → mI M22 (q 0 c) = mI M21 (q 0 c) := fun c hc => by rw [e22]; exact I_ne hC _ _ (by omega)
  have E22 : Ec q PKp M M22 := by
    refine Ec_trans (Ec_sIr hC e17 (fun j => ⟨rfl, by omega⟩)) (Ec_trans (Ec_sIr hC e21 (fun j => ⟨rfl, by omega⟩)) ⟨fun a c j hn => ?_, by rw [e22]; rfl⟩)
    refine (Ec_sI (P := PKp) (j := 9) (v := nI (X.length + 1)) hC (M := M21) (M' := M22) ?_ ⟨rfl, Or.inl ⟨rfl, Or.inr rfl⟩⟩).1 a c j hn
    rw [e22, i21 18 (by decide), i17 18 (by decide)]
  have ef : (X ++ [[]]).flatten = X.flatten := by simp
  have n22 : mI M22 (q 0 22) = mI M (q 0 22) := by rw [i22 22 (by decide), i21 22 (by decide), i17 22 (by decide)]
  refine c_keep64 (X0 := X) (g := []) hC (by rw [E22.2]; exact hR) hX ⟨?_, ?_, ?_, ?_, ?_⟩ (by rw [ef, n22]; exact hb) (fun M' E' k' => h M' (Ec_trans E22 E') k')
  · rw [e22, mI_sI_self, m1_at, List.length_append, List.length_singleton]
  · rw [e22, mI_sI_self, m1_nat _ _ (by decide), ef]; exact k7
  · rw [i22 24 (by decide), i21 24 (by decide), e17, mI_sI_self]
    simp only [List.map_append, List.map_cons, List.map_nil]
    have := Ar_snoc k24 0
    rw [List.length_map] at this; exact this
  · rw [i22 25 (by decide), e21, mI_sI_self, i17 25 (by decide)]
    simp only [List.map_append, List.map_cons, List.map_nil]
    have := Ar_snoc k25 0
    rw [List.length_map] at this; exact this
  · rw [ef, n22]; exact k22
theorem c_keep {Y : Ly} {q : Nat → Nat → Nat} {nL W nB : Nat} {M : Mm} {X : List (List Bt)} {b : Bt} {Kn : Mm → Prop} (hC : SC Y q nL W nB) (hR : SR q nL (mR M)) (hW : mI M (q 0 13) 2 = nI W) (hI : PkI W X) (hX : (pks W X b).length ≤ 60) (hb1 : b.length ≤ 16384) (hK : PK q M X) (hb : Lie (mI M (q 0 22)) (tot X.flatten) b)
    (h : ∀ M', Ec q PKp M M' → PK q M' (pks W X b) → Kn M') : f_X2_keepStaged Y (q 0 18) (nI b.length) M Kn := by
  have hd := sdims hC
  have hl := pks_len W X b
  unfold f_X2_keepStaged
  refine ⟨sk_0_18 hC, ?_⟩
  rw [hK.1, nIeq (x := 0) (b := 0) rfl (by omega) (by decide)]
  rcases pks_cases W X b with ⟨X0, g, e, z, ep⟩ | ⟨z, ep⟩
  · refine ⟨fun c => by rw [e] at c; simp at c, fun _ => ?_⟩
    have h24 := hK.2.2.1
    subst e
    rw [List.length_append, List.length_singleton, nI_pred]
    rw [List.length_append, List.length_singleton] at hl
    have hI0 := (hI g (by simp)).2
    simp only [List.map_append, List.map_cons, List.map_nil] at h24
    have e24 := Ar_last h24
    rw [List.length_map] at e24
    refine ⟨_, sr_0_18_11 hR, sk_0_24 hC, by rw [sn_0_24 hC]; exact vp_in_nI (by omega) (by decide), _, sr_0_18_0 hR, sk_0_13 hC, ?_⟩
    rw [nI_clamp (by omega), e24, nI_add, hW, show (1024 : Int32) = nI 1024 from rfl, pk_mul, nI_cmp (by omega) (by omega)]
    refine ⟨fun _ => c_keep64 hC hR (by omega) hK hb (by rw [← ep]; exact h), fun c => absurd z c⟩
  · rw [ep, List.length_append, List.length_singleton] at hX
    have fin := c_keep34 hC hR (by omega) hK hb (by rw [← ep]; exact h)
    refine ⟨fun _ => fin, fun c => ?_⟩
    rcases snoc_cases X with e | ⟨X0, g, e⟩
    · rw [e] at c; exact absurd rfl c
    · have h24 := hK.2.2.1
      have z2 := z X0 g e
      subst e
      rw [List.length_append, List.length_singleton, nI_pred]
      rw [List.length_append, List.length_singleton] at hX
      have hI0 := (hI g (by simp)).2
      simp only [List.map_append, List.map_cons, List.map_nil] at h24
      have e24 := Ar_last h24
      rw [List.length_map] at e24
      refine ⟨_, sr_0_18_11 hR, sk_0_24 hC, by rw [sn_0_24 hC]; exact vp_in_nI (by omega) (by decide), _, sr_0_18_0 hR, sk_0_13 hC, ?_⟩
      rw [nI_clamp (by omega), e24, nI_add, hW, show (1024 : Int32) = nI 1024 from rfl, pk_mul, nI_cmp (by omega) (by omega)]
      exact ⟨fun c => absurd c z2, fun _ => fin⟩
