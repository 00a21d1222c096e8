/-! what a log knows of a producer -/
def knL {α : Type} (f : α → Bool) : Nat → List α → Option α
  | _, [] => none
  | r, x :: xs => if f x = true then (if r = 0 then some x else knL f (r - 1) xs) else knL f r xs
theorem knL_map {α β : Type} (f : β → Bool) (h : α → β) : ∀ (xs : List α) (r : Nat), knL f r (xs.map h) = (knL (fun x => f (h x)) r xs).map h
  | [], _ => rfl
  | x :: xs, r => by
    simp only [List.map_cons, knL]
    split
    · split
      · rfl
      · exact knL_map f h xs _
    · exact knL_map f h xs _
theorem knL_filter {α : Type} (f g : α → Bool) : ∀ (xs : List α) (r : Nat), knL (fun x => g x && f x) r xs = knL f r (xs.filter g)
  | [], _ => rfl
  | x :: xs, r => by
    by_cases hg : g x = true
    · rw [List.filter_cons_of_pos hg]
      simp only [knL, hg, Bool.true_and]
      split
      · split
        · rfl
        · exact knL_filter f g xs _
      · exact knL_filter f g xs _
    · rw [List.filter_cons_of_neg hg]
      have : g x = false := by simpa using hg
      simp only [knL, this, Bool.false_and]
      exact knL_filter f g xs _
theorem knL_mem {α : Type} {f : α → Bool} : ∀ {xs : List α} {r : Nat} {x : α}, knL f r xs = some x → x ∈ xs ∧ f x = true
  | [], _, _, h => by cases h
  | y :: xs, r, x, h => by
    simp only [knL] at h
    split at h
    · next hf =>
      split at h
      · cases h; exact ⟨List.mem_cons_self, hf⟩
      · obtain ⟨h1, h2⟩ := knL_mem h; exact ⟨List.mem_cons_of_mem _ h1, h2⟩
    · obtain ⟨h1, h2⟩ := knL_mem h; exact ⟨List.mem_cons_of_mem _ h1, h2⟩
def prB (b : Bt) : Int64 := beS (fB b) 43 8
def epB (b : Bt) : Int32 := (beS (fB b) 51 2).toInt32
def sqB (b : Bt) : Int32 := (beS (fB b) 53 4).toInt32
def laB (b : Bt) : Int32 := (beS (fB b) 23 4).toInt32
def baB (b : Bt) : Int64 := beS (fB b) 0 8
def ftB (b : Bt) : Int64 := beS (fB b) 27 8
def gtB (b : Bt) : Int64 := beS (fB b) 35 8
/-- the class sees table l so -/
theorem c_at {Y : Ly} {q : Nat → Nat → Nat} {nL W nB l i : Nat} {S : Nat → List Sg} {st en : Nat → Int64} {M : Mm} (hG : Geo nL W nB S) (hLC : LogC q nL W nB M st en S) (hD : DkA nL (mI M (q 0 11)) st en S) (hl : l ≤ nL) {p : Nat × Bt} (hp : (PS (S l))[i]? = some p) : mI M (q (l + 1) 4) i = nI p.1 ∧ Lie (mI M (q 0 11)) p.1 p.2 ∧ p.1 + p.2.length ≤ nB * 1024 ∧ 61 ≤ p.2.length := by
  have hm := List.mem_of_getElem? hp
  have h1 := PS_lo hG hl hm
  exact ⟨Ar_map (hLC.2.2 l hl).2.1.2.2.2.2.2 hp, (hD l hl).2 p hm, h1.2.1, h1.2.2⟩
def ans {α : Type} (g : α → Nat) : Option α → Int32
  | none => -1
  | some x => nI (g x)
theorem rev_s {α : Type} {xs : List α} {i : Nat} {x : α} (h : xs[i]? = some x) : (xs.take (i + 1)).reverse = x :: (xs.take i).reverse := by
  rw [take_s h]; simp
theorem c_knownAt {Y : Ly} {q : Nat → Nat → Nat} {nL W nB l r : Nat} {p : Int64} {S : Nat → List Sg} {st en : Nat → Int64} {M : Mm} {Kn : Int32 → Mm → Prop} (hC : SC Y q nL W nB) (hR : SR q nL (mR M)) (hl : l ≤ nL) (hG : Geo nL W nB S) (hLC : LogC q nL W nB M st en S) (hD : DkA nL (mI M (q 0 11)) st en S) (hr : r < 5)
    (h : Kn (if p = -1 then -1 else ans (fun x => x.1) (knL (fun x => decide (prB x.2 = p)) r (PS (S l)).reverse)) M) : f_X9_knownAt Y (q 0 13) (q (l + 1) 0) p (nI r) M Kn := by
  have hd := sdims hC
  have hct := Geo_count hG hl
  have t7 := (hLC.2.2 l hl).2.1.2.1
  unfold f_X9_knownAt f_X9_knownAt_14
  refine ⟨fun e => by rwa [if_pos e] at h, fun e => ⟨fun c => ⟨sk_t_0 hC l hl, fun x4 e4 => ?_⟩, fun c => absurd (nI_lt hr (by decide)) c⟩⟩
  rw [if_neg e] at h
  rw [t7] at e4
  subst e4
  refine LOOP3_inv (fun x5 x6 M7 => ∃ j i, M7 = M ∧ j ≤ r ∧ x5 = nI j ∧ i ≤ (PS (S l)).length ∧ x6 = nI i - 1 ∧ knL (fun x => decide (prB x.2 = p)) r (PS (S l)).reverse = knL (fun x => decide (prB x.2 = p)) (r - j) ((PS (S l)).take i).reverse) (fun _ x6 _ => (x6 + 1).toNatClampNeg) ?_ _ _ _ ⟨0, (PS (S l)).length, rfl, by omega, rfl, Nat.le_refl _, rfl, by rw [List.take_of_length_le (Nat.le_refl _), Nat.sub_zero]⟩
  rintro x5 x6 M7 again ⟨j, i, rfl, hj, rfl, hi, rfl, hk⟩ hag
  unfold L_X9_knownAt_27
  cases i with
  | zero =>
    refine ⟨fun _ => ?_, fun c => absurd (show (nI 0 - 1 : Int32) < 0 from by decide) c⟩
    rw [hk] at h
    exact h
  | succ i =>
    rw [nI_pred]
    obtain ⟨x, hx⟩ := lt_some (show i < (PS (S l)).length by omega)
    obtain ⟨v1, v2, v3, v4⟩ := c_at (Y := Y) hG hLC hD hl hx
    rw [rev_s hx] at hk
    simp only [knL, decide_eq_true_eq] at hk
    have hin : vp_in (nI i) (yN Y (q (l + 1) 4)) := by rw [sn_t_4 hC l hl]; exact vp_in_nI (by omega) (by omega)
    refine ⟨fun c => absurd c (nI_pos (by omega)), fun _ => ⟨sk_0_13 hC, _, sr_0_13_0 hR, sk_0_10 hC, _, sr_0_10_0 hR, _, sr_t_8 hR l hl, sk_t_4 hC l hl, hin, ?_⟩⟩
    rw [nI_clamp (by omega), v1]
    refine s_producerOf (sk_0_11 hC) (by rw [sn_0_11 hC]; omega) (by rw [sn_0_11 hC]; omega) ?_
    rw [show b_producerOf (mI M7 (q 0 11)) x.1 = prB x.2 from beS_fB v2 (by omega)]
    have nx : ∀ j', j' ≤ r → knL (fun x => decide (prB x.2 = p)) r (PS (S l)).reverse = knL (fun x => decide (prB x.2 = p)) (r - j') ((PS (S l)).take i).reverse → f_X9_knownAt_72 Y (nI i) again M7 (nI j') := by
      intro j' hj' hk'
      unfold f_X9_knownAt_72
      intro x19 e19
      have : nI i + (-1) = nI i - 1 := by rw [Int32.sub_eq_add_neg]
      rw [this] at e19
      subst e19
      refine hag _ _ _ ⟨j', i, rfl, hj', rfl, by omega, rfl, hk'⟩ ?_
      rw [Int32.sub_add_cancel, Int32.sub_add_cancel, nI_clamp (by omega), nI_clamp (by omega)]; omega
    refine ⟨fun c => nx j hj (by rw [hk, if_neg c]), fun c => ?_⟩
    rw [if_pos c] at hk
    rw [nI_eq (by omega) (by omega)]
    refine ⟨fun c2 x22 e22 => ?_, fun c2 => ⟨_, sr_t_8 hR l hl, sk_t_4 hC l hl, hin, ?_⟩⟩
    · rw [nI_1] at e22
      subst e22
      refine nx (j + 1) (by omega) ?_
      rw [hk, if_neg (by omega), show r - j - 1 = r - (j + 1) from by omega]
    · rw [hk, if_pos (by omega)] at h
      rw [v1]
      exact h
/-- the model's batch b, its bytes -/
theorem m_at {q : Nat → Nat → Nat} {nL W nB hp ht i : Nat} {S : Nat → List Sg} {B : List Bm} {st en : Nat → Int64} {M : Mm} (hG : Geo nL W nB S) (h : LogM q nL W nB M st en S B hp ht) {x : Bm} (hx : B[i]? = some x) : mI M (q 20 20) i = nI (mL x) ∧ mI M (q 20 21) i = nI (mA x) ∧ mI M (q 20 22) i = nI (mN x) ∧ mI M (q 20 23) i = nI (mS x) ∧ Lie (mI M (q 20 hp)) (mA x) (m8 (mB x)) ∧ Bys (mB x) ∧ mA x + mN x ≤ 524288 ∧ 61 ≤ mN x ∧ mL x ≤ nL := by
  obtain ⟨-, -, -, a6, -, ⟨b1, b2, b3, b4, b5⟩, -, -, a13⟩ := h
  have hm := List.mem_of_getElem? hx
  obtain ⟨c1, c2, c3⟩ := b5 x hm
  obtain ⟨s, hs, -, hb⟩ := Lnk_mem a13 hm
  exact ⟨Ar_map b1 hx, Ar_map b2 hx, Ar_map b3 hx, Ar_map b4 hx, c2, c3, by omega, ((hG.1 _ (a13.1 x hm)).2 s hs).2.2.2.2 _ hb, a13.1 x hm⟩
/-- a number of a batch of the model -/
theorem m_num {Y : Ly} {q : Nat → Nat → Nat} {nL W nB hp ht i o n : Nat} {S : Nat → List Sg} {B : List Bm} {st en : Nat → Int64} {M : Mm} {Kn : Int64 → Mm → Prop} (hC : SC Y q nL W nB) (hG : Geo nL W nB S) (h : LogM q nL W nB M st en S B hp ht) {x : Bm} (hx : B[i]? = some x) (hn : n = 2 ∨ n = 4 ∨ n = 8) (ho : o + n ≤ 61) (hK : Kn (beS (fB (mB x)) o n) M) : f_X12_number Y (q 20 hp) (nI (mA x + o)) (nI n) M Kn := by
  obtain ⟨-, -, -, -, v5, -, v7, v8, -⟩ := m_at hG h hx
  obtain ⟨kh, nh⟩ := hp_k hC h.2.2.2.2.1.1
  refine s_number kh (by omega) (by omega) (by omega) ?_
  rw [mo_fB v5 hn (by unfold mN at v8; omega)]
  exact hK
