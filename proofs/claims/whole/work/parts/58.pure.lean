/-! which blocks are used -/
def cv (W : Nat) (F : List Nat) (b : Nat) : Nat := (F.filter (fun s => decide (s ≤ b ∧ b < s + W))).length
theorem cv_app (W : Nat) (F G : List Nat) (b : Nat) : cv W (F ++ G) b = cv W F b + cv W G b := by simp [cv]
theorem cv_1 (W s b : Nat) : cv W [s] b = if s ≤ b ∧ b < s + W then 1 else 0 := by
  unfold cv
  by_cases h : s ≤ b ∧ b < s + W
  · rw [if_pos h]; simp [h]
  · rw [if_neg h]
    simp; omega
theorem cv_nil (W b : Nat) : cv W [] b = 0 := rfl
def FFs (S : Nat → List Sg) : Nat → List Nat
  | 0 => []
  | n + 1 => FFs S n ++ (S n).map (fun s => s.1)
theorem FFs_le (W : Nat) (S : Nat → List Sg) (b : Nat) : ∀ {i n : Nat}, i ≤ n → cv W (FFs S i) b ≤ cv W (FFs S n) b := by
  intro i n h
  induction n with
  | zero => rw [show i = 0 from by omega]; exact Nat.le_refl _
  | succ n ih =>
    by_cases e : i = n + 1
    · rw [e]; exact Nat.le_refl _
    · have := ih (by omega)
      simp only [FFs, cv_app]; omega
theorem FFs_part (W : Nat) (S : Nat → List Sg) (b : Nat) {i n j : Nat} (h : i < n) : cv W (FFs S i ++ ((S i).take j).map (fun s => s.1)) b ≤ cv W (FFs S n) b := by
  have h1 := FFs_le W S b (show i + 1 ≤ n by omega)
  have h2 : cv W ((S i).map (fun s => s.1)) b = cv W (((S i).take j).map (fun s => s.1)) b + cv W (((S i).drop j).map (fun s => s.1)) b := by
    rw [← cv_app, ← List.map_append, List.take_append_drop]
  simp only [FFs, cv_app] at h1 ⊢
  omega
def Us (u : Nat → Int32) (W nB : Nat) (F : List Nat) : Prop := ∀ b, b < nB → u b = nI (cv W F b)
theorem inc8 : ∀ c : Fin 127, ((nI c.val + 1).toInt8.toInt32) = nI (c.val + 1) := by decide +kernel
theorem c_mark {Y : Ly} {q : Nat → Nat → Nat} {nL W nB s : Nat} {F : List Nat} {M : Mm} {Kn : Mm → Prop} (hC : SC Y q nL W nB) (hR : SR q nL (mR M)) (hW : mI M (q 0 13) 2 = nI W) (hs : s + W ≤ nB) (hU : Us (mI M (q 0 15)) W nB F) (hcv : ∀ b, cv W F b ≤ 100)
    (h : ∀ u, Us u W nB (F ++ [s]) → Kn (sI M (q 0 15) u)) : f_X9_markSegment Y (q 0 13) (nI s) M Kn := by
  have hd := sdims hC
  have hN := sn_0_15 hC
  unfold f_X9_markSegment
  refine LOOP2_inv (fun x1 M2 => ∃ k u, k ≤ W ∧ x1 = nI (s + k) ∧ M2 = sI M (q 0 15) u ∧ ∀ b, b < nB → u b = nI (cv W F b + (if s ≤ b ∧ b < s + k then 1 else 0))) (fun x1 _ => s + W - x1.toNatClampNeg) ?_ _ _ ⟨0, mI M (q 0 15), by omega, rfl, (sI_same _ _).symm, fun b hb => by rw [if_neg (by omega)]; exact hU b hb⟩
  rintro x1 M2 again ⟨k, u, hk, rfl, rfl, hu⟩ hag
  unfold L_X9_markSegment_2
  rw [I_ne hC _ _ (by omega), hW, nI_add, nI_cmp (by omega) (by omega)]
  refine ⟨sk_0_13 hC, fun c => ?_, fun c => ⟨_, sr_0_13_4 hR, sk_0_15 hC, ?_⟩⟩
  · refine h u (fun b hb => ?_)
    rw [hu b hb, cv_app, cv_1, show k = W from by omega]
  · rw [hN, nI_cmp (by omega) (by omega)]
    refine ⟨fun c2 => by omega, fun c2 => ⟨_, sr_0_13_4 hR, sk_0_15 hC, by rw [hN]; exact vp_in_nI (by omega) (by omega), by rw [hN]; exact vp_in_nI (by omega) (by omega), fun M12 e12 x13 e13 => ?_⟩⟩
    rw [mI_sI_self, sI_sI, nI_clamp (by omega), hu (s + k) (by omega), if_neg (by omega), Nat.add_zero, Int8.toInt8_toInt32, inc8 ⟨cv W F (s + k), by have := hcv (s + k); omega⟩] at e12
    rw [nI_1] at e13
    subst e12 e13
    refine hag _ _ ⟨k + 1, _, by omega, rfl, rfl, fun b hb => ?_⟩ ?_
    · by_cases e : b = s + k
      · subst e
        rw [m1_self, if_pos (by omega)]
      · rw [m1_ne _ _ e, hu b hb]
        by_cases g : s ≤ b ∧ b < s + k
        · rw [if_pos g, if_pos (by omega)]
        · rw [if_neg g, if_neg (by omega)]
    · rw [nI_clamp (by omega), nI_clamp (by omega)]; omega
theorem c_countUses {Y : Ly} {q : Nat → Nat → Nat} {nL W nB : Nat} {S : Nat → List Sg} {M : Mm} {Kn : Mm → Prop} (hC : SC Y q nL W nB) (hR : SR q nL (mR M)) (hW : mI M (q 0 13) 2 = nI W) (hT : ∀ l, l ≤ nL → TabM q l M (S l)) (hS : ∀ l, l ≤ nL → (S l).length ≤ 60) (hB : ∀ l, l ≤ nL → ∀ s, s ∈ S l → s.1 + W ≤ nB) (hcv : ∀ b, cv W (FFs S (nL + 1)) b ≤ 100)
    (h : ∀ u, Us u W nB (FFs S (nL + 1)) → Kn (sI M (q 0 15) u)) : f_X9_countUses Y (q 0 13) M Kn := by
  have hd := sdims hC
  have hN := sn_0_15 hC
  have no : ∀ (u : Nat → Int32) (l c : Nat), mI (sI M (q 0 15) u) (q (l + 1) c) = mI M (q (l + 1) c) := fun u l c => I_ne hC _ _ (by omega)
  unfold f_X9_countUses
  refine ⟨sk_0_13 hC, _, sr_0_13_4 hR, s_fillAll (sk_0_15 hC) (by omega) ?_⟩
  rw [hN, byte0]
  simp only [mR_sI]
  refine ⟨_, sr_0_13_1 hR, sk_0_14 hC, fun x6 e6 => ?_⟩
  rw [sn_0_14 hC] at e6
  subst e6
  refine LOOP2_inv (fun x7 M8 => ∃ i u, i ≤ nL + 1 ∧ x7 = nI i ∧ M8 = sI M (q 0 15) u ∧ Us u W nB (FFs S i)) (fun x7 _ => nL + 1 - x7.toNatClampNeg) ?_ _ _ ⟨0, _, by omega, rfl, rfl, fun b hb => by rw [fillR_at, if_pos (by omega)]; rfl⟩
  rintro x7 M8 again ⟨i, u, hi, rfl, rfl, hu⟩ hag
  unfold L_X9_countUses_18
  rw [nI_cmp (by omega) (by omega), nI_clamp (by omega), sn_0_14 hC]
  refine ⟨fun c => ?_, fun c => ⟨vp_in_nI (by omega) (by omega), _, by rw [mR_sI]; exact sr_0_14 hR i (by omega), ?_⟩⟩
  · rw [show i = nL + 1 from by omega] at hu
    exact h u hu
  obtain ⟨t3, t7, tb, tz, th, ta⟩ := hT i (by omega)
  have hSi := hS i (by omega)
  refine LOOP2_inv (fun x12 M13 => ∃ j u, j ≤ (S i).length ∧ x12 = nI j ∧ M13 = sI M (q 0 15) u ∧ Us u W nB (FFs S i ++ ((S i).take j).map (fun s => s.1))) (fun x12 _ => (S i).length - x12.toNatClampNeg) ?_ _ _ ⟨0, u, by omega, rfl, rfl, by simpa using hu⟩
  rintro x12 M13 again2 ⟨j, u', hj, rfl, rfl, hu'⟩ hag2
  unfold L_X9_countUses_31
  rw [no, t3, nI_cmp (by omega) (by omega)]
  refine ⟨sk_t_0 hC i (by omega), fun c2 x16 e16 => ?_, fun c2 => ⟨_, by rw [mR_sI]; exact sr_t_4 hR i (by omega), sk_t_1 hC i (by omega), by rw [sn_t_1 hC i (by omega)]; exact vp_in_nI (by omega) (by decide), ?_⟩⟩
  · rw [nI_1] at e16
    subst e16
    refine hag _ _ ⟨i + 1, u', by omega, rfl, rfl, ?_⟩ ?_
    · rw [List.take_of_length_le c2] at hu'
      exact hu'
    · rw [nI_clamp (by omega), nI_clamp (by omega)]; omega
  · obtain ⟨g, hg⟩ := lt_some (show j < (S i).length by omega)
    have hgm : g ∈ S i := List.mem_of_getElem? hg
    rw [nI_clamp (by omega), no, Ar_at tb (x := g.1) (by rw [List.getElem?_map, hg]; rfl)]
    refine c_mark hC (by rw [mR_sI]; exact hR) (by rw [I_ne hC _ _ (by omega)]; exact hW) (hB i (by omega) g hgm) (by rw [mI_sI_self]; exact hu') (fun b => Nat.le_trans (FFs_part W S b (by omega)) (hcv b)) ?_
    intro u2 hu2 x21 e21
    rw [nI_1] at e21
    subst e21
    rw [sI_sI]
    refine hag2 _ _ ⟨j + 1, u2, by omega, rfl, rfl, ?_⟩ ?_
    · rw [take_s hg, List.map_append, ← List.append_assoc]
      exact hu2
    · rw [nI_clamp (by omega), nI_clamp (by omega)]; omega
/-- b is the foremost place for a segment -/
def free (W : Nat) (F : List Nat) (b : Nat) : Prop := ∀ k, b ≤ k → k < b + W → cv W F k = 0
def Lst (lo W nB : Nat) (F : List Nat) (b : Nat) : Prop := lo ≤ b ∧ b + W ≤ nB ∧ free W F b ∧ ∀ b', lo ≤ b' → b' < b → ¬ free W F b'
def NoR (lo W nB : Nat) (F : List Nat) : Prop := ∀ b, lo ≤ b → b + W ≤ nB → ¬ free W F b
theorem c_take {Y : Ly} {q : Nat → Nat → Nat} {nL W nB : Nat} {F : List Nat} {M : Mm} {Kn : Int32 → Mm → Prop} (hC : SC Y q nL W nB) (hR : SR q nL (mR M)) (hW : mI M (q 0 13) 2 = nI W) (hF : mI M (q 0 13) 3 = nI (nL + 2)) (hU : Us (mI M (q 0 15)) W nB F) (hcv : ∀ b, cv W F b ≤ 100)
    (h : ∀ b, Lst (nL + 2) W nB F b → ∀ u, Us u W nB (F ++ [b]) → Kn (nI b) (sI M (q 0 15) u))
    (hn : NoR (nL + 2) W nB F → Kn (-1) M) : f_X9_takeSegment Y (q 0 13) M Kn := by
  have hd := sdims hC
  have hN := sn_0_15 hC
  unfold f_X9_takeSegment
  refine ⟨sk_0_13 hC, fun x2 e2 => ?_⟩
  rw [hF] at e2
  subst e2
  refine LOOP2_inv (fun x3 x4 => ∃ r b, x3 = nI r ∧ x4 = nI b ∧ b ≤ nB ∧ nL + 2 ≤ b ∧ r < W ∧ r ≤ b - (nL + 2) ∧ (∀ k, b - r ≤ k → k < b → cv W F k = 0) ∧ (∀ b', nL + 2 ≤ b' → b' < b - r → ¬ free W F b')) (fun _ x4 => nB - x4.toNatClampNeg) ?_ _ _ ⟨0, nL + 2, rfl, rfl, by omega, by omega, by omega, by omega, fun k h1 h2 => by omega, fun b' h1 h2 => by omega⟩
  rintro x3 x4 again ⟨r, b, rfl, rfl, hb, hlo, hr, hrb, hz, hA⟩ hag
  unfold L_X9_takeSegment_7
  refine ⟨_, sr_0_13_4 hR, sk_0_15 hC, ?_⟩
  rw [hN, nI_cmp (by omega) (by omega)]
  refine ⟨fun c => hn (fun b' h1 h2 => hA b' h1 (by omega)), fun c => ⟨_, sr_0_13_4 hR, sk_0_15 hC, by rw [hN]; exact vp_in_nI (by omega) (by omega), ?_⟩⟩
  rw [nI_clamp (by omega), hU b (by omega)]
  have h0 : nI (cv W F b) = 0 ↔ cv W F b = 0 := by
    have := hcv b
    rw [show (0 : Int32) = nI 0 from rfl, nI_eq (by omega) (by omega)]
  rw [h0]
  have t32 : ∀ r', r' ≤ W → (r' = 0 → cv W F b ≠ 0) → (∀ k, b + 1 - r' ≤ k → k < b + 1 → cv W F k = 0) → (∀ b', nL + 2 ≤ b' → b' < b + 1 - r' → ¬ free W F b') → r' ≤ b + 1 - (nL + 2) → f_X9_takeSegment_32 Y (q 0 13) M Kn (nI b) again (nI r') := by
    intro r' h1 h2 h3 h4 h5
    unfold f_X9_takeSegment_32
    rw [hW, nI_eq (by omega) (by omega)]
    refine ⟨fun c2 x13 e13 => ?_, fun c2 x14 e14 => ?_⟩
    · rw [nI_1] at e13
      subst e13
      refine hag _ _ ⟨r', b + 1, rfl, rfl, by omega, by omega, by omega, h5, h3, h4⟩ ?_
      rw [nI_clamp (by omega), nI_clamp (by omega)]; omega
    · rw [pk_sub (by omega), nI_1] at e14
      subst e14 c2
      have e1 : b - r' + 1 = b + 1 - r' := by omega
      rw [e1]
      refine c_mark hC hR hW (by omega) hU hcv (fun u hu => h _ ⟨by omega, by omega, fun k k1 k2 => h3 k k1 (by omega), h4⟩ u hu)
  refine ⟨fun c2 => t32 0 (by omega) (fun _ => c2) (fun k k1 k2 => by omega) ?_ (by omega), fun c2 => ?_⟩
  · intro b' k1 k2 hf
    by_cases g : b' < b - r
    · exact hA b' k1 g hf
    · exact c2 (hf b (by omega) (by omega))
  · rw [nI_1]
    refine t32 (r + 1) (by omega) (by omega) ?_ ?_ (by omega)
    · intro k k1 k2
      by_cases e : k = b
      · rw [e]; exact c2
      · exact hz k (by omega) (by omega)
    · intro b' k1 k2
      exact hA b' k1 (by omega)
