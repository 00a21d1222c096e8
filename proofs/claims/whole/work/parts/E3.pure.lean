/-! batches lie apart; which ones are known -/
def Dsj (x y : Nat × Bt) : Prop := x.1 + x.2.length ≤ y.1 ∨ y.1 + y.2.length ≤ x.1
theorem pbs_pw : ∀ (bs : List Bt) (a : Nat), List.Pairwise Dsj (pbs a bs)
  | [], _ => List.Pairwise.nil
  | b :: bs, a => by
    refine List.Pairwise.cons (fun y hy => ?_) (pbs_pw bs _)
    have := (pbs_in hy).1
    exact Or.inl (by show a + b.length ≤ y.1; omega)
theorem cv_pw {W : Nat} (hW : 1 ≤ W) : ∀ (F : List Nat), (∀ b, cv W F b ≤ 1) → List.Pairwise (fun a c => a + W ≤ c ∨ c + W ≤ a) F
  | [], _ => List.Pairwise.nil
  | a :: F, h => by
    have e : ∀ b, cv W (a :: F) b = cv W [a] b + cv W F b := fun b => cv_app W [a] F b
    refine List.Pairwise.cons (fun c hc => ?_) (cv_pw hW F (fun b => by have := h b; rw [e] at this; omega))
    by_cases z : a + W ≤ c ∨ c + W ≤ a
    · exact z
    · exfalso
      have h1 := h (max a c)
      rw [e, cv_1] at h1
      have h2 := cv_mem (W := W) (b := max a c) hc (by omega) (by omega)
      rw [if_pos ⟨by omega, by omega⟩] at h1
      omega
theorem PS_pw {nL W nB l : Nat} {S : Nat → List Sg} (hG : Geo nL W nB S) (hl : l ≤ nL) (hW : 1 ≤ W) : List.Pairwise Dsj (PS (S l)) := by
  unfold PS
  rw [List.pairwise_flatMap]
  refine ⟨fun s _ => pbs_pw _ _, ?_⟩
  have h1 := cv_pw hW ((S l).map (fun s => s.1)) (fun b => Nat.le_trans (FFs_ge (by omega)) (hG.2 b))
  rw [List.pairwise_map] at h1
  refine List.Pairwise.imp_of_mem (fun {s t} hs ht hst => ?_) h1
  intro x hx y hy
  have a1 := pbs_in hx
  have a2 := pbs_in hy
  have b1 := ((hG.1 l hl).2 s hs).2.2.1
  have b2 := ((hG.1 l hl).2 t ht).2.2.1
  have c1 : (s.2.map List.length).sum ≤ W * 1024 := b1
  have c2 : (t.2.map List.length).sum ≤ W * 1024 := b2
  rcases hst with g | g
  · have : (s.1 + W) * 1024 ≤ t.1 * 1024 := Nat.mul_le_mul_right _ g
    exact Or.inl (by omega)
  · have : (t.1 + W) * 1024 ≤ s.1 * 1024 := Nat.mul_le_mul_right _ g
    exact Or.inr (by omega)
theorem PS_dj {nL W nB l : Nat} {S : Nat → List Sg} (hG : Geo nL W nB S) (hl : l ≤ nL) (hW : 1 ≤ W) {i j : Nat} {x y : Nat × Bt} (hx : (PS (S l))[i]? = some x) (hy : (PS (S l))[j]? = some y) (hij : i ≠ j) : Dsj x y := by
  have hp := PS_pw hG hl hW
  rw [List.pairwise_iff_getElem] at hp
  obtain ⟨h1, e1⟩ := List.getElem?_eq_some_iff.mp hx
  obtain ⟨h2, e2⟩ := List.getElem?_eq_some_iff.mp hy
  rcases Nat.lt_or_gt_of_ne hij with g | g
  · have := hp i j h1 h2 g
    rw [e1, e2] at this; exact this
  · have := hp j i h2 h1 g
    rw [e1, e2] at this; exact this.elim Or.inr Or.inl
theorem knL_ix {α : Type} (f : α → Bool) : ∀ (n : Nat) (xs : List α), xs.length = n → ∀ (r i : Nat) (x : α), xs[i]? = some x → (knL (fun z : α × Nat => f z.1) r xs.zipIdx.reverse = some (x, i) ↔ f x = true ∧ r = ((xs.drop (i + 1)).filter f).length)
  | 0, xs, h, r, i, x, hx => by
    have : xs = [] := List.length_eq_zero_iff.mp h
    rw [this] at hx; cases hx
  | n + 1, xs, h, r, i, x, hx => by
    rcases snoc_cases xs with e | ⟨ys, z, e⟩
    · rw [e] at h; cases h
    have hn : ys.length = n := by rw [e] at h; simpa using h
    have ez : xs.zipIdx.reverse = (z, n) :: ys.zipIdx.reverse := by
      rw [e, List.zipIdx_append, List.reverse_append]
      simp [hn]
    rw [ez]
    simp only [knL]
    have out : ∀ r' y, ¬ knL (fun z : α × Nat => f z.1) r' ys.zipIdx.reverse = some (y, n) := by
      intro r' y c
      have m := (knL_mem c).1
      rw [List.mem_reverse] at m
      have := zip_of m
      rw [List.getElem?_eq_none (by simp [hn])] at this
      cases this
    by_cases hi : i = n
    · subst hi
      have hz : x = z := by
        rw [e, List.getElem?_append_right (by omega), hn] at hx
        simpa using hx.symm
      subst hz
      rw [List.drop_eq_nil_of_le (by omega)]
      by_cases hf : f x = true
      · rw [if_pos hf]
        by_cases h0 : r = 0
        · rw [if_pos h0]; exact ⟨fun _ => ⟨hf, h0⟩, fun _ => rfl⟩
        · rw [if_neg h0]; exact ⟨fun c => absurd c (out _ _), fun c => absurd c.2 h0⟩
      · rw [if_neg hf]; exact ⟨fun c => absurd c (out _ _), fun c => absurd c.1 hf⟩
    · have hlt : i < n := by
        obtain ⟨h1, -⟩ := List.getElem?_eq_some_iff.mp hx
        omega
      have hx' : ys[i]? = some x := by rw [e, List.getElem?_append_left (by omega)] at hx; exact hx
      have ih := fun r' => knL_ix f n ys hn r' i x hx'
      rw [e, List.drop_append_of_le_length (by omega), List.filter_append, List.length_append]
      by_cases hf : f z = true
      · rw [if_pos hf, List.filter_cons_of_pos hf]
        by_cases h0 : r = 0
        · rw [if_pos h0]
          refine ⟨fun c => ?_, fun c => ?_⟩
          · exfalso; cases c; exact hi rfl
          · exfalso; have := c.2; simp at this; omega
        · rw [if_neg h0, ih (r - 1)]
          simp
          intro _
          omega
      · rw [if_neg hf, List.filter_cons_of_neg hf, ih r]
        simp
theorem zip_fst {α : Type} (xs : List α) : xs.zipIdx.map (fun x => x.1) = xs := by
  apply List.ext_getElem?
  intro i
  rw [List.getElem?_map, List.getElem?_zipIdx]
  cases xs[i]? <;> rfl
theorem fil_snd (S : List Sg) (n : Nat) (p : Int64) : (((PS S).drop n).filter (fun x => decide (prB x.2 = p))).length = (((BS S).drop n).filter (fun c => decide (prB c = p))).length := by
  rw [← PS_snd, ← List.map_drop, List.filter_map, List.length_map]; rfl
theorem c_isKnown {Y : Ly} {q : Nat → Nat → Nat} {nL W nB : Nat} {S : Nat → List Sg} {st en : Nat → Int64} {M : Mm} (hC : SC Y q nL W nB) (hR : SR q nL (mR M)) (hG : Geo nL W nB S) (hLC : LogC q nL W nB M st en S) (hD : DkA nL (mI M (q 0 11)) st en S) {l i : Nat} {x : Nat × Bt} {Kn : Int32 → Mm → Prop} (hl : l ≤ nL) (hx : (PS (S l))[i]? = some x) (h1 : kno (BS (S l)) i x.2 → Kn 1 M) (h0 : ¬ kno (BS (S l)) i x.2 → Kn 0 M) : f_X9_isKnown Y (q 0 13) (q (l + 1) 0) (nI x.1) M Kn := by
  have hd := sdims hC
  obtain ⟨v1, v2, v3, v4⟩ := c_at (Y := Y) hG hLC hD hl hx
  unfold f_X9_isKnown
  refine ⟨sk_0_13 hC, _, sr_0_13_0 hR, sk_0_10 hC, _, sr_0_10_0 hR, s_producerOf (sk_0_11 hC) (by rw [sn_0_11 hC]; omega) (by rw [sn_0_11 hC]; omega) ?_⟩
  rw [show b_producerOf (mI M (q 0 11)) x.1 = prB x.2 from beS_fB v2 (by omega)]
  have key : ∀ r, (if prB x.2 = -1 then -1 else ans (fun x => x.1) (knL (fun y => decide (prB y.2 = prB x.2)) r (PS (S l)).reverse)) = nI x.1 ↔ prB x.2 ≠ -1 ∧ r = (((BS (S l)).drop (i + 1)).filter (fun c => decide (prB c = prB x.2))).length := by
    intro r
    by_cases z : prB x.2 = -1
    · rw [if_pos z]
      exact ⟨fun c => absurd c.symm (nI_nm1 (by omega)), fun c => absurd z c.1⟩
    · rw [if_neg z]
      have hk := knL_ix (fun y : Nat × Bt => decide (prB y.2 = prB x.2)) _ _ rfl r i x hx
      rw [fil_snd] at hk
      have em : knL (fun y : Nat × Bt => decide (prB y.2 = prB x.2)) r (PS (S l)).reverse = (knL (fun z : (Nat × Bt) × Nat => decide (prB z.1.2 = prB x.2)) r (PS (S l)).zipIdx.reverse).map (fun z => z.1) := by
        rw [← knL_map (fun y : Nat × Bt => decide (prB y.2 = prB x.2)) (fun z : (Nat × Bt) × Nat => z.1), List.map_reverse, zip_fst]
      rw [em]
      cases ek : knL (fun z : (Nat × Bt) × Nat => decide (prB z.1.2 = prB x.2)) r (PS (S l)).zipIdx.reverse with
      | none =>
        rw [ek] at hk
        show (-1 : Int32) = nI x.1 ↔ _
        refine ⟨fun c => absurd c.symm (nI_nm1 (by omega)), fun c => ?_⟩
        have := hk.mpr ⟨by simp, c.2⟩
        cases this
      | some y =>
        rw [ek] at hk
        obtain ⟨y, j⟩ := y
        have m := (knL_mem ek).1
        rw [List.mem_reverse] at m
        have hy : (PS (S l))[j]? = some y := zip_of m
        have hyb := (PS_lo hG hl (List.mem_of_getElem? hy)).2
        show nI y.1 = nI x.1 ↔ _
        rw [nI_eq (by omega) (by omega)]
        constructor
        · intro c
          by_cases hij : i = j
          · subst hij
            rw [hx] at hy
            cases hy
            exact ⟨z, (hk.mp rfl).2⟩
          · have := PS_dj hG hl (by omega) hx hy hij
            unfold Dsj at this
            exfalso; omega
        · intro c
          have := hk.mpr ⟨by simp, c.2⟩
          cases this; rfl
  refine LOOP2_inv (fun x7 M8 => ∃ r, r ≤ 5 ∧ x7 = nI r ∧ M8 = M ∧ ∀ r', r' < r → ¬ (prB x.2 ≠ -1 ∧ r' = (((BS (S l)).drop (i + 1)).filter (fun c => decide (prB c = prB x.2))).length)) (fun x7 _ => 5 - x7.toNatClampNeg) ?_ _ _ ⟨0, by omega, rfl, rfl, fun r' h => absurd h (by omega)⟩
  rintro x7 M8 again ⟨r, hr, rfl, rfl, hno⟩ hag
  unfold L_X9_isKnown_15
  rw [show (5 : Int32) = nI 5 from rfl, nI_cmp (by decide) (by omega)]
  refine ⟨fun c => ⟨Or.inl rfl, h0 (fun k => hno _ (by have := k.2; omega) ⟨k.1, rfl⟩)⟩, fun c => ?_⟩
  refine c_knownAt hC hR hl hG hLC hD (by omega) ?_
  have kr := key r
  refine ⟨fun c2 x13 e13 => ?_, fun c2 => ⟨Or.inr rfl, h1 ?_⟩⟩
  · rw [kr] at c2
    rw [nI_1] at e13
    subst e13
    refine hag _ _ ⟨r + 1, by omega, rfl, rfl, fun r' h' => ?_⟩ (by rw [nI_clamp (by omega), nI_clamp (by omega)]; omega)
    by_cases e : r' = r
    · rw [e]; exact c2
    · exact hno r' (by omega)
  · rw [kr] at c2
    exact ⟨c2.1, by have := c2.2; omega⟩
