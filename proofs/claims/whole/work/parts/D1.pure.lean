/-! the class's table of keys -/
def HT (q : Nat → Nat → Nat) (nB : Nat) (M : Mm) (m : Nat) (T : Nat → Option (List Int32)) (P : Nat → Nat) : Prop := mI M (q 0 18) 5 = nI m ∧ ∀ j, j < m → (T j = none → mI M (q 0 20) j = -1) ∧ ∀ k, T j = some k → mI M (q 0 20) j = nI (P j) ∧ mI M (q 0 21) j = nI k.length ∧ Lie (mI M (q 0 11)) (P j) k ∧ P j + k.length ≤ nB * 1024
def HK (q : Nat → Nat → Nat) (nB : Nat) (M : Mm) (p : Nat) (k : List Int32) : Prop := mI M (q 0 19) 2 = nI p ∧ mI M (q 0 19) 3 = nI k.length ∧ Lie (mI M (q 0 11)) p k ∧ p + k.length ≤ nB * 1024
theorem list_eq {x y : List Int32} (hl : x.length = y.length) (h : ∀ i, i < x.length → x.getD i 0 = y.getD i 0) : x = y := by
  refine List.ext_getElem hl (fun i h1 h2 => ?_)
  have := h i h1
  rw [List.getD_eq_getElem?_getD, List.getD_eq_getElem?_getD, List.getElem?_eq_getElem h1, List.getElem?_eq_getElem h2] at this
  exact this
theorem c_isKeyOf {Y : Ly} {q : Nat → Nat → Nat} {nL W nB : Nat} {M : Mm} {m j p : Nat} {T : Nat → Option (List Int32)} {P : Nat → Nat} {k k' : List Int32} {Kn : Int32 → Mm → Prop} (hC : SC Y q nL W nB) (hR : SR q nL (mR M)) (hT : HT q nB M m T P) (hm : m ≤ 2 * (nB * 1024 / 7) + 1) (hK : HK q nB M p k) (hj : j < m) (e : T j = some k') (h1 : k' = k → Kn 1 M) (h0 : k' ≠ k → Kn 0 M) : f_X2_isKeyOf Y (q 0 18) (nI j) M Kn := by
  have hd := sdims hC
  obtain ⟨s1, s2, s3, s4⟩ := (hT.2 j hj).2 k' e
  obtain ⟨u1, u2, u3, u4⟩ := hK
  have cj : (nI j).toNatClampNeg = j := nI_clamp (by omega)
  have n11 := sn_0_11 hC
  unfold f_X2_isKeyOf
  refine ⟨sk_0_18 hC, _, sr_0_18_4 hR, sk_0_21 hC, by rw [sn_0_21 hC]; exact vp_in_nI (by omega) (by omega), _, sr_0_18_2 hR, sk_0_19 hC, ?_⟩
  rw [cj, s2, u2, nI_eq (by omega) (by omega)]
  refine ⟨fun hl => ?_, fun hl => ⟨Or.inl rfl, h0 (fun z => hl (by rw [z]))⟩⟩
  refine LOOP1_inv (fun x8 => ∃ i, i ≤ k.length ∧ x8 = nI i ∧ ∀ i', i' < i → k'.getD i' 0 = k.getD i' 0) (fun x8 => k.length - x8.toNatClampNeg) ?_ _ ⟨0, by omega, rfl, fun i' hi' => by omega⟩
  rintro x8 again ⟨i, hi, rfl, hall⟩ hag
  unfold L_X2_isKeyOf_20
  refine ⟨_, sr_0_18_2 hR, sk_0_19 hC, ?_⟩
  rw [u2]
  refine pk_le k.length i (fun g => ⟨Or.inr rfl, h1 (list_eq hl (fun i' hi' => hall i' (by omega)))⟩) (fun g => ?_)
  refine ⟨_, sr_0_18_1 hR, _, sr_0_18_3 hR, sk_0_20 hC, by rw [sn_0_20 hC]; exact vp_in_nI (by omega) (by omega), sk_0_11 hC, ?_⟩
  rw [cj, s1, nI_add, n11, nI_clamp (by omega), Lie_get s3 (show i < k'.length by omega)]
  refine ⟨vp_in_nI (by omega) (by omega), _, sr_0_18_1 hR, _, sr_0_18_2 hR, sk_0_19 hC, sk_0_11 hC, ?_⟩
  rw [u1, nI_add, n11, nI_clamp (by omega), Lie_get u3 (show i < k.length by omega)]
  refine ⟨vp_in_nI (by omega) (by omega), fun c x24 e24 => ?_, fun c => ⟨Or.inl rfl, h0 (fun z => c (by rw [z]))⟩⟩
  rw [nI_1] at e24
  subst e24
  refine hag _ ⟨i + 1, by omega, rfl, fun i' hi' => ?_⟩ (by rw [nI_clamp (by omega), nI_clamp (by omega)]; omega)
  by_cases y : i' = i
  · rw [y]; exact c
  · exact hall i' (by omega)
