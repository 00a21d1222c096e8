/-! retention by the model -/
def BRow (q : Nat → Nat → Nat) (M : Mm) (j : Nat) (x : Bm) : Prop := mI M (q 20 20) j = nI (mL x) ∧ mI M (q 20 21) j = nI (mA x) ∧ mI M (q 20 22) j = nI (mN x) ∧ mI M (q 20 23) j = nI (mS x)
def PB : Nat → Nat → Nat → Prop := fun a b _ => a = 20 ∧ 20 ≤ b ∧ b ≤ 23
theorem m_copy {Y : Ly} {q : Nat → Nat → Nat} {nL W nB : Nat} {M : Mm} {i j : Nat} {x : Bm} {Kn : Mm → Prop} (hC : SC Y q nL W nB) (hM : SM q (mR M)) (hi : i < 4500) (hj : j < 4500) (hx : BRow q M i x) (h : ∀ M', EfH q PB M M' → BRow q M' j x → (∀ k y, k ≠ j → BRow q M k y → BRow q M' k y) → mI M' (q 20 0) = mI M (q 20 0) → mJ M' = mJ M → Kn M') : f_X12_copy Y (q 20 0) (nI i) (nI j) M Kn := by
  obtain ⟨x1, x2, x3, x4⟩ := hx
  have vi : ∀ b, yN Y b = 4500 → vp_in (nI i) (yN Y b) := fun b hb => by rw [hb]; exact vp_in_nI hi (by decide)
  have vj : ∀ b, yN Y b = 4500 → vp_in (nI j) (yN Y b) := fun b hb => by rw [hb]; exact vp_in_nI hj (by decide)
  have ci : (nI i).toNatClampNeg = i := nI_clamp (by omega)
  have cj : (nI j).toNatClampNeg = j := nI_clamp (by omega)
  unfold f_X12_copy
  refine ⟨sk_20_0 hC, _, sm_19 hM, _, sm_19 hM, sk_20_20 hC, vi _ (sn_20_20 hC), sk_20_20 hC, vj _ (sn_20_20 hC), fun M8 e8 => ⟨q 20 21, by rw [e8]; exact sm_20 hM, q 20 21, by rw [e8]; exact sm_20 hM, sk_20_21 hC, vi _ (sn_20_21 hC), sk_20_21 hC, vj _ (sn_20_21 hC), fun M15 e15 => ⟨q 20 22, by rw [e15, e8]; exact sm_21 hM, q 20 22, by rw [e15, e8]; exact sm_21 hM, sk_20_22 hC, vi _ (sn_20_22 hC), sk_20_22 hC, vj _ (sn_20_22 hC), fun M22 e22 => ⟨q 20 23, by rw [e22, e15, e8]; exact sm_22 hM, q 20 23, by rw [e22, e15, e8]; exact sm_22 hM, sk_20_23 hC, vi _ (sn_20_23 hC), sk_20_23 hC, vj _ (sn_20_23 hC), fun M29 e29 => ?_⟩⟩⟩⟩
  rw [ci, cj] at e8 e15 e22 e29
  have b8 : ∀ b, b ≠ 20 → mI M8 (q 20 b) = mI M (q 20 b) := fun b hb => by rw [e8]; exact I_ne hC _ _ (by omega)
  have b15 : ∀ b, b ≠ 21 → mI M15 (q 20 b) = mI M8 (q 20 b) := fun b hb => by rw [e15]; exact I_ne hC _ _ (by omega)
  have b22 : ∀ b, b ≠ 22 → mI M22 (q 20 b) = mI M15 (q 20 b) := fun b hb => by rw [e22]; exact I_ne hC _ _ (by omega)
  have b29 : ∀ b, b ≠ 23 → mI M29 (q 20 b) = mI M22 (q 20 b) := fun b hb => by rw [e29]; exact I_ne hC _ _ (by omega)
  have z20 : mI M29 (q 20 20) = m1 (mI M (q 20 20)) j (nI (mL x)) := by rw [b29 _ (by omega), b22 _ (by omega), b15 _ (by omega), e8, mI_sI_self, x1]
  have z21 : mI M29 (q 20 21) = m1 (mI M (q 20 21)) j (nI (mA x)) := by rw [b29 _ (by omega), b22 _ (by omega), e15, mI_sI_self, b8 _ (by omega), x2]
  have z22 : mI M29 (q 20 22) = m1 (mI M (q 20 22)) j (nI (mN x)) := by rw [b29 _ (by omega), e22, mI_sI_self, b15 _ (by omega), b8 _ (by omega), x3]
  have z23 : mI M29 (q 20 23) = m1 (mI M (q 20 23)) j (nI (mS x)) := by rw [e29, mI_sI_self, b22 _ (by omega), b15 _ (by omega), b8 _ (by omega), x4]
  refine h M29 (EfH_trans (EfH_sI hC e8 ⟨rfl, by omega, by omega⟩) (EfH_trans (EfH_sI hC e15 ⟨rfl, by omega, by omega⟩) (EfH_trans (EfH_sI hC e22 ⟨rfl, by omega, by omega⟩) (EfH_sI hC e29 ⟨rfl, by omega, by omega⟩)))) ?_ ?_ ?_ ?_
  · unfold BRow; rw [z20, z21, z22, z23, m1_at, m1_at, m1_at, m1_at]; exact ⟨rfl, rfl, rfl, rfl⟩
  · rintro k y hk ⟨y1, y2, y3, y4⟩
    unfold BRow
    rw [z20, z21, z22, z23, m1_nat _ _ hk, m1_nat _ _ hk, m1_nat _ _ hk, m1_nat _ _ hk]
    exact ⟨y1, y2, y3, y4⟩
  · rw [b29 _ (by omega), b22 _ (by omega), b15 _ (by omega), b8 _ (by omega)]
  · rw [e29, e22, e15, e8]; rfl
/-- a batch's base where only its row and its bytes are known -/
theorem m_baR {Y : Ly} {q : Nat → Nat → Nat} {nL W nB : Nat} {M : Mm} {i hp : Nat} {x : Bm} {Kn : Int64 → Mm → Prop} (hC : SC Y q nL W nB) (hM : SM q (mR M)) (hH : hpR q (mR M) hp) (hi : i < 4500) (hx : BRow q M i x) (hL : Lie (mI M (q 20 hp)) (mA x) (m8 (mB x))) (h8 : 8 ≤ mN x) (ha : mA x + mN x ≤ 540000) (h : Kn (baB (mB x)) M) : f_X12_base Y (q 20 0) (nI i) M Kn := by
  obtain ⟨kh, nh⟩ := hp_k hC hH.1
  unfold f_X12_base
  refine ⟨sk_20_0 hC, _, hH.2.1, _, sm_20 hM, sk_20_21 hC, by rw [sn_20_21 hC]; exact vp_in_nI hi (by decide), ?_⟩
  rw [nI_clamp (by omega), hx.2.1]
  refine s_number (n := 8) kh (by decide) (by omega) (by omega) ?_
  have := mo_fB (i := 0) (n := 8) hL (by simp) (by have : mN x = (mB x).length := rfl; omega)
  rw [Nat.add_zero] at this
  rw [this]; exact h
/-- does batch x stay, when the first n segments of log l go -/
def kpB (l n : Nat) (S : List Sg) (x : Bm) : Bool := decide (¬ (mL x = l ∧ mS x ∈ (S.take n).map (fun s => s.1)))
def fsB (l : Nat) : List Bm → Int64
  | [] => -1
  | x :: xs => if mL x = l then baB (mB x) else fsB l xs
theorem fsB_a (l : Nat) : ∀ (xs : List Bm) (x : Bm), (∃ y, y ∈ xs ∧ mL y = l) → fsB l (xs ++ [x]) = fsB l xs
  | [], x, h => by obtain ⟨y, hy, _⟩ := h; cases hy
  | y :: xs, x, h => by
    simp only [List.cons_append, fsB]
    by_cases e : mL y = l
    · rw [if_pos e, if_pos e]
    · rw [if_neg e, if_neg e]
      refine fsB_a l xs x ?_
      obtain ⟨z, hz, ez⟩ := h
      rcases List.mem_cons.mp hz with rfl | hz
      · exact absurd ez e
      · exact ⟨z, hz, ez⟩
theorem fsB_b (l : Nat) : ∀ (xs : List Bm) (x : Bm), (∀ y, y ∈ xs → ¬ mL y = l) → fsB l (xs ++ [x]) = if mL x = l then baB (mB x) else -1
  | [], x, _ => rfl
  | y :: xs, x, h => by
    simp only [List.cons_append, fsB]
    rw [if_neg (h y List.mem_cons_self)]
    exact fsB_b l xs x (fun z hz => h z (List.mem_cons_of_mem _ hz))
theorem fsB_no {l : Nat} : ∀ {xs : List Bm}, (∀ y, y ∈ xs → ¬ mL y = l) → fsB l xs = -1
  | [], _ => rfl
  | y :: xs, h => by
    simp only [fsB]
    rw [if_neg (h y List.mem_cons_self)]
    exact fsB_no (fun z hz => h z (List.mem_cons_of_mem _ hz))
theorem fsB_mb (l : Nat) : ∀ (xs : List Bm), fsB l xs = match mb l xs with | [] => -1 | b :: _ => baB b
  | [] => rfl
  | y :: xs => by
    unfold mb ofL
    simp only [fsB]
    by_cases e : mL y = l
    · rw [if_pos e, List.filter_cons_of_pos (by rw [decide_eq_true_eq]; exact e)]; rfl
    · rw [if_neg e, List.filter_cons_of_neg (by rw [decide_eq_true_eq]; exact e), fsB_mb l xs]; rfl
theorem cv_dup {W k : Nat} {F : List Nat} (hW : 1 ≤ W) : ∀ {A B : List Nat}, F = A ++ B → k ∈ A → k ∈ B → 2 ≤ cv W F k := by
  intro A B e h1 h2
  rw [e, cv_app]
  have a := cv_mem (W := W) h1 (Nat.le_refl k) (by omega)
  have b := cv_mem (W := W) h2 (Nat.le_refl k) (by omega)
  omega
theorem Geo_dis {nL W nB l n : Nat} {S : Nat → List Sg} (hG : Geo nL W nB S) (hl : l ≤ nL) (hW : 1 ≤ W) {k : Nat} (h1 : k ∈ ((S l).take n).map (fun s => s.1)) (h2 : k ∈ ((S l).drop n).map (fun s => s.1)) : False := by
  have e : (S l).map (fun s => s.1) = ((S l).take n).map (fun s => s.1) ++ ((S l).drop n).map (fun s => s.1) := by rw [← List.map_append, List.take_append_drop]
  have a := cv_dup (W := W) hW e h1 h2
  have b := FFs_ge (W := W) (S := S) (b := k) (n := nL + 1) (l := l) (by omega)
  have c := hG.2 k
  omega
theorem SB_fil {nL W nB l n : Nat} {S : Nat → List Sg} (hG : Geo nL W nB S) (hl : l ≤ nL) (hW : 1 ≤ W) : (SB (S l)).filter (fun p => decide (¬ p.1 ∈ ((S l).take n).map (fun s => s.1))) = SB ((S l).drop n) := by
  have e : SB (S l) = SB ((S l).take n) ++ SB ((S l).drop n) := by
    have : ∀ A B : List Sg, SB (A ++ B) = SB A ++ SB B := fun A B => by simp [SB]
    rw [← this, List.take_append_drop]
  rw [e, List.filter_append]
  have h1 : (SB ((S l).take n)).filter (fun p => decide (¬ p.1 ∈ ((S l).take n).map (fun s => s.1))) = [] := by
    rw [List.filter_eq_nil_iff]
    rintro ⟨k, b⟩ hp
    obtain ⟨s, a, c, d⟩ := SB_mem hp
    simp only [decide_eq_true_eq, Decidable.not_not]
    exact List.mem_map.mpr ⟨s, a, c⟩
  have h2 : (SB ((S l).drop n)).filter (fun p => decide (¬ p.1 ∈ ((S l).take n).map (fun s => s.1))) = SB ((S l).drop n) := by
    rw [List.filter_eq_self]
    rintro ⟨k, b⟩ hp
    obtain ⟨s, a, c, d⟩ := SB_mem hp
    rw [decide_eq_true_eq]
    intro z
    exact Geo_dis hG hl hW z (List.mem_map.mpr ⟨s, a, c⟩)
  rw [h1, h2, List.nil_append]
theorem Lnk_ret {nL W nB l n : Nat} {S : Nat → List Sg} {B : List Bm} (hG : Geo nL W nB S) (hl : l ≤ nL) (hW : 1 ≤ W) (h : Lnk nL S B) : Lnk nL (m1 S l ((S l).drop n)) (B.filter (kpB l n (S l))) := by
  refine ⟨fun x hx => h.1 x (List.mem_filter.mp hx).1, fun l2 h2 => ?_⟩
  unfold ofL
  rw [List.filter_filter]
  by_cases e : l2 = l
  · subst e
    rw [m1_at, ← SB_fil hG h2 hW, ← h.2 l2 h2]
    unfold ofL
    rw [List.filter_map, List.filter_filter]
    congr 1
    apply List.filter_congr
    intro x _
    unfold kpB
    by_cases z : mL x = l2
    · simp [z]
    · simp [z]
  · rw [m1_nat _ _ e, ← h.2 l2 h2]
    unfold ofL
    congr 1
    apply List.filter_congr
    intro x _
    unfold kpB
    by_cases z : mL x = l2
    · have : ¬ mL x = l := fun w => e (by rw [← z, w])
      simp [z, show ¬ l2 = l from e]
    · simp [z]
theorem fil_s {α : Type} {f : α → Bool} {xs : List α} {i : Nat} {x : α} (h : xs[i]? = some x) : (xs.take (i + 1)).filter f = (xs.take i).filter f ++ (if f x = true then [x] else []) := by
  rw [take_s h, List.filter_append]
  congr 1
  by_cases e : f x = true
  · rw [if_pos e, List.filter_cons_of_pos e]; rfl
  · rw [if_neg e, List.filter_cons_of_neg e]; rfl
theorem fil_len {α : Type} {f : α → Bool} {xs : List α} {i : Nat} (h : i ≤ xs.length) : ((xs.take i).filter f).length ≤ i := by
  have := List.length_filter_le f (xs.take i)
  rw [List.length_take] at this; omega
def PRt : Nat → Nat → Nat → Prop := fun a b j => a = 20 ∧ ((b = 0 ∧ (j = 5 ∨ j = 6 ∨ j = 7 ∨ j = 18)) ∨ (20 ≤ b ∧ b ≤ 23) ∨ b = 27 ∨ b = 29 ∨ b = 30 ∨ b = 31)
theorem e60 (l i : Nat) : (60 : Int32) * nI l + nI i = nI (60 * l + i) := by
  rw [show (60 : Int32) = nI 60 from rfl, pk_mul 60 l, nI_add]
theorem m_retainL {Y : Ly} {q : Nat → Nat → Nat} {nL W nB : Nat} {M : Mm} {st : Nat → Int64} {L : LSt} {l b n : Nat} {Kn : Int32 → Mm → Prop} (hC : SC Y q nL W nB) (hM : SM q (mR M)) (hl : l ≤ nL) (hI : IL nL W nB n st L) (hn : n < 2 ^ 40) (hML : ML q nL W nB M st L) (hD0 : lD L = 0) (hb : b < 2 ^ 31)
    (h : ∀ st' L' r M', RetR l b st L st' L' r → ML q nL W nB M' st' L' → EfH q PRt M M' → Kn r M') : ∃ m, LOOP2 (L_X12_retain_35 Y (q 20 0) (nI l) (nI b) Kn M) m 0 0 := by
  have hd := sdims hC
  have hG := hI.1
  have hOK := hI.2.1
  have hlf := IL_lf hI hD0
  have hML0 := hML
  obtain ⟨⟨B, hp, ht, hLM⟩, w6, w7, w5⟩ := hML
  have hGl := hG.1 l hl
  have hzz := Geo_szs hG hl
  have hct := Lnk_count hG hLM.2.2.2.2.2.2.2.2
  have hSg := hLM.2.2.2.2.2.2.1
  have hseg := hSg l hl
  have hH := hLM.2.2.2.2.1
  obtain ⟨S, eS⟩ : ∃ S, S = lS L l := ⟨_, rfl⟩
  rw [← eS] at hGl hzz hseg
  have hW : W * 1024 ≤ 16 * 1024 := Nat.mul_le_mul_right _ hd.2.2.2.1
  have vl9 : vp_in (nI l) (yN Y (q 20 29)) := by rw [sn_20_29 hC]; exact vp_in_nI (by omega) (by decide)
  have hlc : (nI l).toNatClampNeg = l := nI_clamp (by omega)
  have v60 : ∀ i b, i < 60 → yN Y b = 540 → vp_in (nI (60 * l + i)) (yN Y b) := fun i b hi hb => by rw [hb]; exact vp_in_nI (by omega) (by decide)
  have szl : ∀ i, szs (S.drop i) ≤ szs S := fun i => by
    unfold szs
    have : S.map sz = (S.take i).map sz ++ (S.drop i).map sz := by rw [← List.map_append, List.take_append_drop]
    rw [this, List.sum_append]; omega
  -- behind the loops
  have fin : ∀ i, rtG b (szs S) S = i → i ≤ S.length → ((¬ nI i = 0 → (f_X12_spend Y (q 20 0) 1 M (fun r18 M17 => ((r18 = 0 → (f_X12_retain_431 Y (q 20 0) Kn (nI i) M17)) ∧ (¬ (r18 = 0) → (∃ n, LOOP4 (L_X12_retain_184 Y (q 20 0) (nI l) Kn (nI i)) n 0 (-1) 0 M17)))))) ∧ (nI i = 0 → (Kn 0 M))) := by
    intro i hrt hi
    rw [nIeq (x := 0) (b := 0) rfl (by omega) (by omega)]
    refine ⟨fun c => ?_, fun c => h st L 0 M (Or.inl ⟨by rw [← eS, hrt, c], rfl, rfl, rfl⟩) hML0 (EfH_refl _ _ _)⟩
    have hS0 : S ≠ [] := fun z => by rw [z] at hi; simp at hi; omega
    have hlt : i < S.length := by rw [← hrt]; exact rtG_lt b S _ hS0
    refine m_spend (n := 1) (sk_20_0 hC) (by decide) (by rw [w7]; exact hlf) ?_
    intro l' ad dn full hSp r hr hrf
    have hr1 : r = 1 := hrf.mpr (SpR_1 hSp)
    subst hr1
    rw [w7] at hSp
    refine ⟨fun z => absurd z (by decide), fun _ => ?_⟩
    obtain ⟨M17, e17⟩ : ∃ M17, M17 = sI M (q 20 0) (m1 (m1 (m1 (mI M (q 20 0)) 6 (mI M (q 20 0) 6 + nI ad)) 7 l') 5 dn) := ⟨_, rfl⟩
    rw [← e17]
    have z0 : mI M17 (q 20 0) = m1 (m1 (m1 (mI M (q 20 0)) 6 (mI M (q 20 0) 6 + nI ad)) 7 l') 5 dn := by rw [e17, mI_sI_self]
    have zb : ∀ b, b ≠ 0 → mI M17 (q 20 b) = mI M (q 20 b) := fun b hb => by rw [e17]; exact I_ne hC _ _ (by omega)
    have zJ : mJ M17 = mJ M := by rw [e17]; rfl
    have zR : mR M17 = mR M := by rw [e17]; rfl
    have E17 : EfH q PRt M M17 := by
      refine ⟨⟨fun a b j n => ?_, fun x _ => by rw [zR], fun f _ _ _ => by rw [zR]⟩, by rw [zR], by rw [zR]⟩
      by_cases e : a = 20 ∧ b = 0
      · obtain ⟨rfl, rfl⟩ := e
        unfold PRt at n
        refine ⟨?_, by rw [zJ]⟩
        rw [z0]; simp only [m1]; rw [if_neg (by omega), if_neg (by omega), if_neg (by omega)]
      · refine ⟨?_, by rw [zJ]⟩
        rw [e17, I_ne hC _ _ e]
    have hM17 : SM q (mR M17) := by rw [zR]; exact hM
    have row : ∀ j x, B[j]? = some x → BRow q M17 j x := fun j x hx => by
      obtain ⟨v1, v2, v3, v4, _⟩ := m_at hG hLM hx
      unfold BRow
      rw [zb _ (by decide), zb _ (by decide), zb _ (by decide), zb _ (by decide)]
      exact ⟨v1, v2, v3, v4⟩
    obtain ⟨s, hs⟩ := lt_some hlt
    have hsg := hGl.2 s (List.mem_of_getElem? hs)
    obtain ⟨b0, bs, hbs⟩ : ∃ b0 bs, s.2 = b0 :: bs := by
      cases e : s.2 with
      | nil => exact absurd e hsg.2.2.2.1
      | cons b0 bs => exact ⟨b0, bs, rfl⟩
    have eBS : BS (S.drop i) = b0 :: (bs ++ BS (S.drop (i + 1))) := by
      rw [drop_s hs]
      show s.2 ++ BS (S.drop (i + 1)) = _
      rw [hbs]; rfl
    have hLnk' := Lnk_ret (n := i) hG hl hd.2.2.1 hLM.2.2.2.2.2.2.2.2
    rw [← eS] at hLnk'
    have hb0OK : BatOK b0 := hOK l hl b0 (by
      rw [← eS]
      have : b0 ∈ BS (S.drop i) := by rw [eBS]; exact List.mem_cons_self
      have e : BS S = BS (S.take i) ++ BS (S.drop i) := by rw [← BS_app, List.take_append_drop]
      rw [e]; exact List.mem_append_right _ this)
    have hfs : fsB l (B.filter (kpB l i S)) = baB b0 := by
      rw [fsB_mb, mb_BS hLnk' hl, m1_at, eBS]
    have pos : ∀ x, x ∈ B → mL x = l → ∃ a, baB (mB x) = lN a ∧ a < 2 ^ 40 := fun x hx hxl => by
      obtain ⟨j, hj⟩ := List.getElem?_of_mem hx
      obtain ⟨a, ha, ea⟩ := (m_bok hOK hLM hj).2.2.2.2.2.1
      exact ⟨a, ea, ha⟩
    have nn : ∀ a, a < 2 ^ 40 → 0 ≤ lN a := fun a ha => by rw [show (0 : Int64) = lN 0 from rfl, pk_lLE (by omega) (by omega)]; omega
    -- all batches
    refine LOOP4_inv (fun x23 x24 x25 M26 => ∃ j, j ≤ B.length ∧ x25 = nI j ∧ x23 = nI ((B.take j).filter (kpB l i S)).length ∧ x24 = fsB l ((B.take j).filter (kpB l i S)) ∧ EfH q PB M17 M26 ∧ mI M26 (q 20 0) = mI M17 (q 20 0) ∧ mJ M26 = mJ M17 ∧ (∀ k x, ((B.take j).filter (kpB l i S))[k]? = some x → BRow q M26 k x) ∧ (∀ k x, j ≤ k → B[k]? = some x → BRow q M26 k x)) (fun _ _ x25 _ => B.length - x25.toNatClampNeg) ?_ _ _ _ _ ⟨0, by omega, rfl, rfl, rfl, EfH_refl _ _ _, rfl, rfl, fun k x hk => by simp at hk, fun k x _ hk => row k x hk⟩
    rintro x23 x24 x25 M26 again ⟨j, hj, rfl, rfl, rfl, E26, z26, J26, hK, hB⟩ hag
    have hkl := fil_len (f := kpB l i S) hj
    have hM26 := Ef_SM E26.1 hM17
    unfold L_X12_retain_184
    rw [z26, z0]
    rw [show m1 (m1 (m1 (mI M (q 20 0)) 6 (mI M (q 20 0) 6 + nI ad)) 7 l') 5 dn 18 = nI B.length from by simp only [m1]; rw [if_neg (by decide), if_neg (by decide), if_neg (by decide)]; exact hLM.2.1, nI_cmp (by omega) (by omega)]
    refine ⟨fun c2 M28 e28 => ?_, fun c2 => ?_⟩
    · have hjB : j = B.length := by omega
      subst hjB
      rw [List.take_of_length_le (Nat.le_refl _)] at e28 hK ⊢
      rw [hfs]
      obtain ⟨a0, ha0, ea0⟩ := hb0OK.2.2.2.2.2.1
      have R28 : mR M28 = mR M26 := by rw [e28]; rfl
      have hM28 : SM q (mR M28) := by rw [R28]; exact hM26
      refine ⟨_, sm_26 hM28, fun _ => ?_, fun z => absurd (by rw [ea0]; exact nn a0 ha0) z⟩
      unfold f_X12_retain_344
      refine ⟨sk_20_27 hC, by rw [sn_20_27 hC]; exact vp_in_nI (by omega) (by decide), fun M33 e33 => ?_⟩
      rw [hlc] at e33
      have R33 : mR M33 = mR M26 := by rw [e33]; exact R28
      have hM33 : SM q (mR M33) := by rw [R33]; exact hM26
      have i33 : ∀ b, b ≠ 0 → mI M33 (q 20 b) = mI M26 (q 20 b) := fun b hb => by rw [e33]; show mI M28 (q 20 b) = _; rw [e28]; exact I_ne hC _ _ (by omega)
      have i33o : ∀ a b, ¬ (a = 20 ∧ b = 0) → mI M33 (q a b) = mI M26 (q a b) := fun a b hb => by rw [e33]; show mI M28 (q a b) = _; rw [e28]; exact I_ne hC _ _ hb
      have j33 : mJ M33 (q 20 27) = m1 (mJ M (q 20 27)) l (baB b0) := by rw [e33, mJ_sJ_self]; show m1 (mJ M28 (q 20 27)) l _ = _; rw [show mJ M28 = mJ M26 from by rw [e28]; rfl, J26, zJ]
      have j33o : ∀ a b, ¬ (a = 20 ∧ b = 27) → mJ M33 (q a b) = mJ M (q a b) := fun a b hb => by rw [e33, J_ne hC _ _ hb, show mJ M28 = mJ M26 from by rw [e28]; rfl, J26, zJ]
      have z33 : mI M33 (q 20 0) = m1 (mI M17 (q 20 0)) 18 (nI (B.filter (kpB l i S)).length) := by rw [e33]; show mI M28 (q 20 0) = _; rw [e28, mI_sI_self, z0]
      have e28' : M28 = sI M26 (q 20 0) (m1 (mI M26 (q 20 0)) 18 (nI (B.filter (kpB l i S)).length)) := by rw [e28, z26, z0]
      have E33 : EfH q PRt M M33 := EfH_trans E17 (EfH_trans (EfH_mono E26 (fun a b j z => by unfold PB at z; unfold PRt; omega)) (EfH_trans (EfH_sI (P := PRt) hC e28' ⟨rfl, Or.inl ⟨rfl, by omega⟩⟩) ⟨Ef_sJ (P := PRt) hC e33 ⟨rfl, by omega⟩, by rw [e33]; rfl, by rw [e33]; rfl⟩))
      have f29 : mI M33 (q 20 29) = mI M (q 20 29) := by rw [i33 _ (by decide), Ef_I E26.1 (fun j => by unfold PB; omega), zb _ (by decide)]
      have f30 : mI M33 (q 20 30) = mI M (q 20 30) := by rw [i33 _ (by decide), Ef_I E26.1 (fun j => by unfold PB; omega), zb _ (by decide)]
      have f31 : mI M33 (q 20 31) = mI M (q 20 31) := by rw [i33 _ (by decide), Ef_I E26.1 (fun j => by unfold PB; omega), zb _ (by decide)]
      -- the rows of segments are moved
      refine LOOP2_inv (fun x34 M35 => ∃ k F H, i ≤ k ∧ k ≤ S.length ∧ x34 = nI k ∧ M35 = sI (sI M33 (q 20 30) F) (q 20 31) H ∧ (∀ m, m < k - i → F (60 * l + m) = mI M (q 20 30) (60 * l + m + i) ∧ H (60 * l + m) = mI M (q 20 31) (60 * l + m + i)) ∧ (∀ m, (m < 60 * l ∨ 60 * l + (k - i) ≤ m) → F m = mI M (q 20 30) m ∧ H m = mI M (q 20 31) m)) (fun x34 _ => S.length - x34.toNatClampNeg) ?_ _ _ ⟨i, mI M33 (q 20 30), mI M33 (q 20 31), Nat.le_refl _, hi, rfl, by rw [sI_same, sI_same], fun m hm => by omega, fun m _ => by rw [f30, f31]; exact ⟨rfl, rfl⟩⟩
      rintro x34 M35 again3 ⟨k, F, H, hik, hkS, rfl, rfl, hFm, hFo⟩ hag3
      have s29 : mI (sI (sI M33 (q 20 30) F) (q 20 31) H) (q 20 29) = mI M (q 20 29) := by rw [I_ne hC _ _ (by omega), I_ne hC _ _ (by omega)]; exact f29
      unfold L_X12_retain_349
      refine ⟨_, sm_28 hM33, sk_20_29 hC, vl9, ?_⟩
      rw [s29, hlc, hseg.1, nI_cmp (by omega) (by omega)]
      refine ⟨fun c3 => ⟨_, sm_28 hM33, sk_20_29 hC, vl9, vl9, fun M44 e44 => ?_⟩, fun c3 => ?_⟩
      · have hkk : k = S.length := by omega
        subst hkk
        rw [s29, hseg.1, pk_sub hi] at e44
        have E44 : EfH q PRt M M44 := EfH_trans E33 (EfH_trans (EfH_sIr hC rfl (fun j => by unfold PRt; omega)) (EfH_trans (EfH_sIr hC rfl (fun j => by unfold PRt; omega)) (EfH_sIr hC e44 (fun j => by unfold PRt; omega))))
        have q0 : mI M44 (q 20 0) = mI M33 (q 20 0) := by rw [e44, I_ne hC _ _ (by omega), I_ne hC _ _ (by omega), I_ne hC _ _ (by omega)]
        have qb : ∀ b, b ≠ 29 → b ≠ 30 → b ≠ 31 → mI M44 (q 20 b) = mI M33 (q 20 b) := fun b h1 h2 h3 => by rw [e44, I_ne hC _ _ (by omega), I_ne hC _ _ (by omega), I_ne hC _ _ (by omega)]
        have q29 : mI M44 (q 20 29) = m1 (mI M (q 20 29)) l (nI (S.length - i)) := by rw [e44, mI_sI_self]
        have q30 : mI M44 (q 20 30) = F := by rw [e44, I_ne hC _ _ (by omega), I_ne hC _ _ (by omega), mI_sI_self]
        have q31 : mI M44 (q 20 31) = H := by rw [e44, I_ne hC _ _ (by omega), mI_sI_self]
        have qJ : mJ M44 = mJ M33 := by rw [e44]; rfl
        have qR : mR M44 = mR M26 := by rw [e44]; exact R33
        have fld : ∀ f v, f ≠ 18 → f ≠ 5 → f ≠ 6 → f ≠ 7 → mI M (q 20 0) f = v → mI M44 (q 20 0) f = v := fun f v h1 h2 h3 h4 hv => by
          rw [q0, z33]; simp only [m1]; rw [if_neg h1, z0]; simp only [m1]; rw [if_neg h2, if_neg h4, if_neg h3]; exact hv
        have hRow : ∀ k x, (B.filter (kpB l i S))[k]? = some x → BRow q M44 k x := fun k x hx => by
          have := hK k x hx
          unfold BRow at this ⊢
          rw [qb _ (by decide) (by decide) (by decide), qb _ (by decide) (by decide) (by decide), qb _ (by decide) (by decide) (by decide), qb _ (by decide) (by decide) (by decide), i33 _ (by decide), i33 _ (by decide), i33 _ (by decide), i33 _ (by decide)]
          exact this
        have hhp : mI M44 (q 20 hp) = mI M (q 20 hp) := by
          have : hp ≠ 0 ∧ hp ≠ 29 ∧ hp ≠ 30 ∧ hp ≠ 31 ∧ 24 ≤ hp := by rcases hH.1 with e | e <;> omega
          rw [qb _ this.2.1 this.2.2.1 this.2.2.2.1, i33 _ this.1, Ef_I E26.1 (fun j => by unfold PB; omega), zb _ this.1]
        have hLM44 : LogM q nL W nB M44 (m1 st l (baB b0)) (lE L) (m1 (lS L) l (S.drop i)) (B.filter (kpB l i S)) hp ht := by
          refine ⟨⟨fld 1 _ (by decide) (by decide) (by decide) (by decide) hLM.1.1, fld 2 _ (by decide) (by decide) (by decide) (by decide) hLM.1.2.1, fld 3 _ (by decide) (by decide) (by decide) (by decide) hLM.1.2.2⟩, ?_, fld 25 _ (by decide) (by decide) (by decide) (by decide) hLM.2.2.1, hLM.2.2.2.1, ?_, ?_, ?_, ?_, hLnk'⟩
          · rw [q0, z33, m1_at]
          · exact ⟨hH.1, by rw [E44.2.1]; exact hH.2.1, by rw [E44.2.2]; exact hH.2.2⟩
          · refine ⟨Ar_mk (fun k x hx => (hRow k x hx).1), Ar_mk (fun k x hx => (hRow k x hx).2.1), Ar_mk (fun k x hx => (hRow k x hx).2.2.1), Ar_mk (fun k x hx => (hRow k x hx).2.2.2), fun x hx => ?_⟩
            rw [hhp]
            exact hLM.2.2.2.2.2.1.2.2.2.2 x (List.mem_filter.mp hx).1
          · intro l2 h2
            rw [q29, q30, q31]
            by_cases e : l2 = l
            · subst e
              rw [m1_at, m1_at]
              refine ⟨by rw [List.length_drop], fun m s' hs' => ?_⟩
              rw [List.getElem?_drop] at hs'
              have := some_lt hs'
              obtain ⟨u1, u2⟩ := hFm m (by omega)
              rw [u1, u2, show 60 * l2 + m + i = 60 * l2 + (i + m) by omega]
              exact hseg.2 (i + m) s' hs'
            · rw [m1_nat _ _ e, m1_nat _ _ e]
              refine ⟨(hSg l2 h2).1, fun m s' hs' => ?_⟩
              have := some_lt hs'
              have := (hG.1 l2 h2).1
              obtain ⟨u1, u2⟩ := hFo (60 * l2 + m) (by omega)
              rw [u1, u2]
              exact (hSg l2 h2).2 m s' hs'
          · intro l2 h2
            rw [qJ, j33, j33o 20 28 (by omega)]
            refine ⟨?_, (hLM.2.2.2.2.2.2.2.1 l2 h2).2⟩
            by_cases e : l2 = l
            · subst e; rw [m1_at, m1_at]
            · rw [m1_nat _ _ e, m1_nat _ _ e]; exact (hLM.2.2.2.2.2.2.2.1 l2 h2).1
        have hRet : RetR l b st L (m1 st l (baB b0)) (lE L, m1 (lS L) l (S.drop i), l', lW L + nI ad, dn) (if dn = 0 then nI i else -3) := by
          refine Or.inr ⟨by rw [← eS, hrt]; exact c, l', ad, dn, full, b0, _, by rw [← eS, hrt]; exact eBS, hSp, rfl, by rw [← eS, hrt], by rw [← eS, hrt]⟩
        have y5 : mI M44 (q 20 0) 5 = dn := by rw [q0, z33]; simp only [m1]; rw [if_neg (by decide), z0]; simp [m1]
        have y6 : mI M44 (q 20 0) 6 = lW L + nI ad := by rw [q0, z33]; simp only [m1]; rw [if_neg (by decide), z0]; simp only [m1]; rw [if_neg (by decide), if_neg (by decide), if_pos trivial, w6]
        have y7 : mI M44 (q 20 0) 7 = l' := by rw [q0, z33]; simp only [m1]; rw [if_neg (by decide), z0]; simp [m1]
        have key := h _ _ _ M44 hRet ⟨⟨_, hp, ht, hLM44⟩, y6, y7, y5⟩ E44
        unfold f_X12_retain_431 f_X12_retain_445
        rw [y5]
        exact ⟨fun z => by rwa [if_pos z] at key, fun z => by rwa [if_neg z] at key⟩
      · rw [e60, show nI (60 * l + k) - nI i = nI (60 * l + (k - i)) from by rw [pk_sub (by omega)]; congr 1; omega]
        refine ⟨_, sm_29 hM33, _, sm_29 hM33, sk_20_30 hC, v60 k _ (by omega) (sn_20_30 hC), sk_20_30 hC, v60 (k - i) _ (by omega) (sn_20_30 hC), fun M51 e51 => ⟨q 20 31, by rw [e51]; exact sm_30 hM33, q 20 31, by rw [e51]; exact sm_30 hM33, sk_20_31 hC, v60 k _ (by omega) (sn_20_31 hC), sk_20_31 hC, v60 (k - i) _ (by omega) (sn_20_31 hC), fun M58 e58 x59 e59 => ?_⟩⟩
        rw [nI_clamp (by omega), nI_clamp (by omega)] at e51 e58
        rw [nI_1] at e59
        subst e59
        rw [I_ne hC _ _ (by omega), mI_sI_self, sI_comm _ _ _ (q_ne hC (by omega)), sI_sI] at e51
        rw [e51, mI_sI_self, sI_sI] at e58
        have vF := (hFo (60 * l + k) (by omega)).1
        have vH := (hFo (60 * l + k) (by omega)).2
        rw [vF, vH] at e58
        refine hag3 _ _ ⟨k + 1, _, _, by omega, by omega, rfl, e58, fun m hm => ?_, fun m hm => ?_⟩ ?_
        · simp only [m1]
          by_cases e : m = k - i
          · rw [if_pos (by omega), if_pos (by omega), show 60 * l + m + i = 60 * l + k by omega]; exact ⟨rfl, rfl⟩
          · rw [if_neg (by omega), if_neg (by omega)]; exact hFm m (by omega)
        · simp only [m1]
          rw [if_neg (by omega), if_neg (by omega)]; exact hFo m (by omega)
        · rw [nI_clamp (by omega), nI_clamp (by omega)]; omega
    · obtain ⟨x, hx⟩ := lt_some (show j < B.length by omega)
      have hxr := hB j x (Nat.le_refl _) hx
      have hxm := List.mem_of_getElem? hx
      obtain ⟨v1, v2, v3, v4, v5, v6, v7, v8, v9⟩ := m_at hG hLM hx
      have vj : ∀ b, yN Y b = 4500 → vp_in (nI j) (yN Y b) := fun b hb => by rw [hb]; exact vp_in_nI (by omega) (by decide)
      have cj : (nI j).toNatClampNeg = j := nI_clamp (by omega)
      have hp26 : mI M26 (q 20 hp) = mI M (q 20 hp) := by
        have : hp ≠ 0 ∧ 24 ≤ hp := by rcases hH.1 with e | e <;> omega
        rw [Ef_I E26.1 (fun j => by unfold PB; omega), zb _ this.1]
      have hH26 : hpR q (mR M26) hp := ⟨hH.1, by rw [E26.2.1, zR]; exact hH.2.1, by rw [E26.2.2, zR]; exact hH.2.2⟩
      have f30 : mI M26 (q 20 30) = mI M (q 20 30) := by rw [Ef_I E26.1 (fun j => by unfold PB; omega), zb _ (by decide)]
      -- behind the inner loop: gone or not
      have nx : ∀ x64 : Int32, x64 = (if kpB l i S x = true then 0 else 1) → ((0 ≤ fsB l ((B.take j).filter (kpB l i S)) → (f_X12_retain_289 Y (q 20 0) (nI ((B.take j).filter (kpB l i S)).length) (fsB l ((B.take j).filter (kpB l i S))) (nI j) M26 again x64)) ∧ (¬ (0 ≤ fsB l ((B.take j).filter (kpB l i S))) → (∃ b76 : Nat, mR M26 (q 20 0) 19 = some b76 ∧ (yK Y b76 = 101 ∧ (vp_in (nI j) (yN Y b76) ∧ ((¬ (mI M26 b76 (nI j).toNatClampNeg) = nI l → (f_X12_retain_289 Y (q 20 0) (nI ((B.take j).filter (kpB l i S)).length) (fsB l ((B.take j).filter (kpB l i S))) (nI j) M26 again x64)) ∧ ((mI M26 b76 (nI j).toNatClampNeg) = nI l → ((¬ x64 = 0 → (f_X12_retain_289 Y (q 20 0) (nI ((B.take j).filter (kpB l i S)).length) (fsB l ((B.take j).filter (kpB l i S))) (nI j) M26 again x64)) ∧ (x64 = 0 → (f_X12_base Y (q 20 0) (nI j) M26 (fun r82 M81 => (f_X12_retain_291 Y (q 20 0) (nI ((B.take j).filter (kpB l i S)).length) (nI j) again x64 r82 M81)))))))))))) := by
        intro x64 e64
        have go : ∀ y, y = fsB l ((B.take (j + 1)).filter (kpB l i S)) → f_X12_retain_291 Y (q 20 0) (nI ((B.take j).filter (kpB l i S)).length) (nI j) again x64 y M26 := by
          intro y ey
          unfold f_X12_retain_291 f_X12_retain_309
          have hfs' := fil_s (f := kpB l i S) hx
          by_cases hkp : kpB l i S x = true
          · rw [if_pos hkp] at e64 hfs'
            subst e64
            refine ⟨fun z => absurd rfl z, fun _ => m_copy hC hM26 (by omega) (by omega) hxr ?_⟩
            intro M' E' hr' hk' z' J' x74 e74 x71 e71
            rw [nI_1] at e74 e71
            subst e74 e71
            refine hag _ _ _ _ ⟨j + 1, by omega, rfl, by rw [hfs', List.length_append]; rfl, ey, EfH_trans E26 E', by rw [z', z26], by rw [J', J26], fun k y hy => ?_, fun k y hk hy => ?_⟩ ?_
            · rw [hfs'] at hy
              rcases snoc_get hy with ⟨rfl, rfl⟩ | ⟨h1, h2⟩
              · exact hr'
              · exact hk' k y (by omega) (hK k y h2)
            · exact hk' k y (by omega) (hB k y (by omega) hy)
            · rw [nI_clamp (by omega), nI_clamp (by omega)]; omega
          · rw [if_neg hkp] at e64 hfs'
            rw [List.append_nil] at hfs'
            subst e64
            refine ⟨fun _ x71 e71 => ?_, fun z => absurd z (by decide)⟩
            rw [nI_1] at e71
            subst e71
            refine hag _ _ _ _ ⟨j + 1, by omega, rfl, by rw [hfs'], ey, E26, z26, J26, fun k y hy => hK k y (by rwa [hfs'] at hy), fun k y hk hy => hB k y (by omega) hy⟩ ?_
            rw [nI_clamp (by omega), nI_clamp (by omega)]; omega
        unfold f_X12_retain_289
        have hfs' := fil_s (f := kpB l i S) hx
        have memB : ∀ y, y ∈ (B.take j).filter (kpB l i S) → y ∈ B := fun y hy => List.mem_of_mem_take (List.mem_filter.mp hy).1
        have posf : ∀ xs : List Bm, (∀ y, y ∈ xs → y ∈ B) → (∃ y, y ∈ xs ∧ mL y = l) → 0 ≤ fsB l xs := by
          intro xs
          induction xs with
          | nil => rintro _ ⟨y, hy, _⟩; cases hy
          | cons y ys ih =>
            intro hs he
            simp only [fsB]
            by_cases e : mL y = l
            · rw [if_pos e]
              obtain ⟨a, ea, ha⟩ := pos y (hs y List.mem_cons_self) e
              rw [ea]; exact nn a ha
            · rw [if_neg e]
              refine ih (fun z hz => hs z (List.mem_cons_of_mem _ hz)) ?_
              obtain ⟨z, hz, ez⟩ := he
              rcases List.mem_cons.mp hz with rfl | hz
              · exact absurd ez e
              · exact ⟨z, hz, ez⟩
        by_cases hany : ∃ y, y ∈ (B.take j).filter (kpB l i S) ∧ mL y = l
        · refine ⟨fun _ => go _ ?_, fun z => absurd (posf _ memB hany) z⟩
          rw [hfs']
          split
          · exact (fsB_a l _ x hany).symm
          · rw [List.append_nil]
        · have hall : ∀ y, y ∈ (B.take j).filter (kpB l i S) → ¬ mL y = l := fun y hy e => hany ⟨y, hy, e⟩
          have hm1 := fsB_no hall
          rw [hm1]
          refine ⟨fun z => absurd z (by decide), fun _ => ⟨_, sm_19 hM26, sk_20_20 hC, vj _ (sn_20_20 hC), ?_⟩⟩
          rw [cj, hxr.1, nI_eq (by omega) (by omega)]
          refine ⟨fun z => go _ ?_, fun z => ⟨fun z2 => go _ ?_, fun z2 => m_baR hC hM26 hH26 (by omega) hxr (by rw [hp26]; exact v5) (by omega) (by omega) (go _ ?_)⟩⟩
          · rw [hfs']
            split
            · rw [fsB_b l _ x hall, if_neg z]
            · rw [List.append_nil, hm1]
          · rw [hfs', if_neg (fun w => z2 (by rw [e64, if_pos w])), List.append_nil, hm1]
          · have hkp : kpB l i S x = true := by
              rcases Bool.eq_false_or_eq_true (kpB l i S x) with w | w
              · exact w
              · rw [e64, w] at z2; exact absurd z2 (by decide)
            rw [hfs', if_pos hkp, fsB_b l _ x hall, if_pos z]
      refine LOOP2_inv (fun x64 x65 => ∃ k, k ≤ i ∧ x65 = nI k ∧ x64 = (if mL x = l ∧ mS x ∈ (S.take k).map (fun s => s.1) then 1 else 0)) (fun _ x65 => i - x65.toNatClampNeg) ?_ _ _ ⟨0, by omega, rfl, by rw [if_neg]; rintro ⟨_, z⟩; simp at z⟩
      rintro x64 x65 again2 ⟨k, hk, rfl, rfl⟩ hag2
      unfold L_X12_retain_199
      rw [nI_cmp (by omega) (by omega)]
      refine ⟨fun c3 => nx _ ?_, fun c3 => ?_⟩
      · rw [show k = i by omega]
        unfold kpB
        by_cases z : mL x = l ∧ mS x ∈ (S.take i).map (fun s => s.1)
        · rw [if_pos z, if_neg (by rw [decide_eq_true_eq]; exact fun w => w z)]
        · rw [if_neg z, if_pos (by rw [decide_eq_true_eq]; exact z)]
      · obtain ⟨t, htt⟩ := lt_some (show k < S.length by omega)
        have nxt : ∀ y83 : Int32, y83 = (if mL x = l ∧ mS x ∈ (S.take (k + 1)).map (fun s => s.1) then 1 else 0) → f_X12_retain_249 Y (nI k) again2 y83 := by
          intro y83 e83 x84 e84
          rw [nI_1] at e84
          subst e84
          refine hag2 _ _ ⟨k + 1, by omega, rfl, e83⟩ ?_
          rw [nI_clamp (by omega), nI_clamp (by omega)]; omega
        have mem' : mS x ∈ (S.take (k + 1)).map (fun s => s.1) ↔ mS x ∈ (S.take k).map (fun s => s.1) ∨ mS x = t.1 := by
          rw [take_s htt, List.map_append, List.mem_append]; simp
        unfold f_X12_retain_244 f_X12_retain_248
        by_cases z : mL x = l ∧ mS x ∈ (S.take k).map (fun s => s.1)
        · rw [if_pos z]
          exact ⟨fun _ => nxt 1 (by rw [if_pos ⟨z.1, mem'.mpr (Or.inl z.2)⟩]), fun w => absurd w (by decide)⟩
        · rw [if_neg z]
          refine ⟨fun w => absurd rfl w, fun _ => ⟨_, sm_19 hM26, sk_20_20 hC, vj _ (sn_20_20 hC), ?_⟩⟩
          rw [cj, hxr.1, nI_eq (by omega) (by omega)]
          refine ⟨fun w => nxt 0 (by rw [if_neg (fun y => w y.1)]), fun w => ⟨_, sm_22 hM26, sk_20_23 hC, vj _ (sn_20_23 hC), _, sm_29 hM26, sk_20_30 hC, by rw [e60]; exact v60 k _ (by omega) (sn_20_30 hC), ?_⟩⟩
          have tg := hGl.2 t (List.mem_of_getElem? htt)
          obtain ⟨s2, hs2, es2, _⟩ := Lnk_mem hLM.2.2.2.2.2.2.2.2 hxm
          have sg2 := (hG.1 (mL x) (hLM.2.2.2.2.2.2.2.2.1 x hxm)).2 s2 hs2
          rw [hxr.2.2.2, e60, nI_clamp (by omega), f30, (hseg.2 k t htt).1, nI_eq (by omega) (by omega)]
          refine ⟨fun y => nxt 0 (by rw [if_neg]; rintro ⟨_, v⟩; rcases mem'.mp v with v | v; exact z ⟨w, v⟩; exact y v), fun y => nxt 1 (by rw [if_pos ⟨w, mem'.mpr (Or.inr y)⟩])⟩
  -- the sum
  refine LOOP2_inv (fun x6 x7 => ∃ i, i ≤ S.length ∧ x7 = nI i ∧ x6 = nI (szs (S.take i))) (fun _ x7 => S.length - x7.toNatClampNeg) ?_ _ _ ⟨0, by omega, rfl, rfl⟩
  rintro x6 x7 again ⟨i, hi, rfl, rfl⟩ hag
  unfold L_X12_retain_35
  refine ⟨_, sm_28 hM, sk_20_29 hC, vl9, ?_⟩
  rw [hlc, hseg.1, nI_cmp (by omega) (by omega)]
  refine ⟨fun c => ?_, fun c => ?_⟩
  · rw [List.take_of_length_le c]
    refine LOOP3_inv (fun x12 x13 x14 => ∃ i, i ≤ S.length ∧ x13 = nI i ∧ ((x14 = 1 ∧ x12 = nI (szs (S.drop i)) ∧ rtG b (szs S) S = i + rtG b (szs (S.drop i)) (S.drop i)) ∨ (x14 = 0 ∧ rtG b (szs S) S = i))) (fun _ x13 x14 => if x14 = 0 then 0 else S.length + 1 - x13.toNatClampNeg) ?_ _ _ _ ⟨0, by omega, rfl, Or.inl ⟨rfl, rfl, by rw [Nat.zero_add]; rfl⟩⟩
    rintro x12 x13 x14 again2 ⟨k, hk, rfl, hcs⟩ hag2
    unfold L_X12_retain_73
    rcases hcs with ⟨rfl, rfl, he⟩ | ⟨rfl, he⟩
    rotate_left
    · exact ⟨fun _ => fin k he hk, fun z => absurd rfl z⟩
    refine ⟨fun z => absurd z (by decide), fun _ => ⟨_, sm_28 hM, sk_20_29 hC, vl9, ?_⟩⟩
    have sk := szl k
    have stop : rtG b (szs S) S = k → f_X12_retain_113 Y (q 20 0) (nI l) M (nI (szs (S.drop k))) (nI k) again2 := by
      intro e
      unfold f_X12_retain_113 f_X12_retain_114 f_X12_retain_138 f_X12_retain_152
      refine ⟨fun _ x102 e102 => ⟨fun _ x104 e104 => ?_, fun z => absurd rfl z⟩, fun z => absurd rfl z⟩
      rw [Int32.add_zero] at e104
      subst e104
      refine hag2 _ _ _ ⟨k, hk, rfl, Or.inr ⟨rfl, e⟩⟩ ?_
      rw [if_pos rfl, if_neg (by decide), nI_clamp (by omega)]; omega
    rw [nI_1, hlc, hseg.1, nI_cmp (by omega) (by omega)]
    refine ⟨fun c2 => stop ?_, fun c2 => ?_⟩
    · rw [he]
      have : (S.drop k).length ≤ 1 := by rw [List.length_drop]; omega
      cases e : S.drop k with
      | nil => rfl
      | cons s r =>
        rw [e] at this
        simp only [List.length_cons] at this
        have : r = [] := List.length_eq_zero_iff.mp (by omega)
        rw [this]; rfl
    · obtain ⟨s, hs⟩ := lt_some (show k < S.length by omega)
      obtain ⟨t, htt⟩ := lt_some (show k + 1 < S.length by omega)
      have hsw := (hGl.2 s (List.mem_of_getElem? hs)).2.2.1
      have hss := szs_s hs
      have vz : mI M (q 20 31) (nI (60 * l + k)).toNatClampNeg = nI (sz s) := by rw [nI_clamp (by omega)]; exact (hseg.2 k s hs).2
      have hstep : rtG b (szs (S.drop k)) (S.drop k) = if b ≤ szs (S.drop k) - sz s then 1 + rtG b (szs (S.drop k) - sz s) (S.drop (k + 1)) else 0 := by
        rw [drop_s hs, drop_s htt]; rfl
      refine ⟨_, sm_30 hM, sk_20_31 hC, by rw [e60]; exact v60 k _ (by omega) (sn_20_31 hC), ?_⟩
      rw [e60, vz, pk_sub (by omega), nI_ltI (by omega) (by omega)]
      refine ⟨fun c3 => stop (by rw [he, hstep, if_neg (by omega)]; rfl), fun c3 => ?_⟩
      unfold f_X12_retain_114 f_X12_retain_138 f_X12_retain_152
      refine ⟨fun z => absurd z (by decide), fun _ => ⟨_, sm_30 hM, sk_20_31 hC, by rw [e60]; exact v60 k _ (by omega) (sn_20_31 hC), fun x102 e102 => ⟨fun z => absurd z (by decide), fun _ x104 e104 => ?_⟩⟩⟩
      rw [e60, vz, pk_sub (by omega)] at e102
      rw [nI_1] at e104
      subst e102 e104
      refine hag2 _ _ _ ⟨k + 1, by omega, rfl, Or.inl ⟨rfl, by rw [hss]; congr 1; omega, ?_⟩⟩ ?_
      · rw [he, hstep, if_pos (by omega), hss, show sz s + szs (S.drop (k + 1)) - sz s = szs (S.drop (k + 1)) by omega]; omega
      · rw [if_neg (by decide), if_neg (by decide), nI_clamp (by omega), nI_clamp (by omega)]; omega
  · obtain ⟨s, hs⟩ := lt_some (show i < S.length by omega)
    refine ⟨_, sm_30 hM, sk_20_31 hC, by rw [e60]; exact v60 i _ (by omega) (sn_20_31 hC), fun x118 e118 x119 e119 => ?_⟩
    rw [e60, nI_clamp (by omega), (hseg.2 i s hs).2, nI_add] at e118
    rw [nI_1] at e119
    subst e118 e119
    refine hag _ _ ⟨i + 1, by omega, rfl, ?_⟩ ?_
    · rw [take_s hs]; unfold szs; simp
    · rw [nI_clamp (by omega), nI_clamp (by omega)]; omega
