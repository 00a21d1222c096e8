/-! the model's batches -/
abbrev Bm : Type := Nat × Nat × Nat × Bt
def mL (x : Bm) : Nat := x.1
def mS (x : Bm) : Nat := x.2.1
def mA (x : Bm) : Nat := x.2.2.1
def mB (x : Bm) : Bt := x.2.2.2
def mN (x : Bm) : Nat := (mB x).length
def tl (B : List Bm) : Nat := (B.map mN).sum
def rt : Nat → List Bm → List Bm
  | _, [] => []
  | a, x :: xs => (mL x, mS x, a, mB x) :: rt (a + mN x) xs
theorem rt_get : ∀ (B : List Bm) (a i : Nat), (rt a B)[i]? = (B[i]?).map (fun x => (mL x, mS x, a + tl (B.take i), mB x))
  | [], a, i => by simp [rt]
  | x :: xs, a, 0 => by simp [rt, tl]
  | x :: xs, a, i + 1 => by
    simp only [rt, List.getElem?_cons_succ, rt_get xs, List.take_succ_cons, tl, List.map_cons, List.sum_cons, Nat.add_assoc]
theorem rt_len (B : List Bm) : ∀ a, (rt a B).length = B.length := by
  induction B with
  | nil => intro a; rfl
  | cons x xs ih => intro a; simp [rt, ih]
theorem tl_s {B : List Bm} {i : Nat} {x : Bm} (h : B[i]? = some x) : tl (B.take (i + 1)) = tl (B.take i) + mN x := by
  rw [take_s h]; simp [tl]
theorem tl_take (B : List Bm) (i : Nat) : tl (B.take i) ≤ tl B := by
  have : tl B = tl (B.take i) + tl (B.drop i) := by
    unfold tl
    rw [← List.sum_append, ← List.map_append, List.take_append_drop]
  omega
theorem Ar_of {f : Nat → Int32} {xs : List Nat} (h : ∀ i x, xs[i]? = some x → f i = nI x) : Ar f xs := by
  intro i hi
  obtain ⟨x, hx⟩ := lt_some hi
  rw [h i x hx]
  simp [List.getD, hx]
theorem Ar_map {α : Type} {f : Nat → Int32} {xs : List α} {g : α → Nat} (h : Ar f (xs.map g)) {i : Nat} {x : α} (hx : xs[i]? = some x) : f i = nI (g x) := Ar_at h (by rw [List.getElem?_map, hx]; rfl)
theorem Ar_mk {α : Type} {f : Nat → Int32} {xs : List α} {g : α → Nat} (h : ∀ i x, xs[i]? = some x → f i = nI (g x)) : Ar f (xs.map g) := by
  refine Ar_of (fun i y hy => ?_)
  rw [List.getElem?_map] at hy
  cases hx : xs[i]? with
  | none => rw [hx] at hy; cases hy
  | some x => rw [hx] at hy; cases hy; exact h i x hx
/-- the model's rows of batches, with their bytes in a heap -/
def BatM (ol ba ln sg f : Nat → Int32) (ht : Nat) (B : List Bm) : Prop :=
  Ar ol (B.map mL) ∧ Ar ba (B.map mA) ∧ Ar ln (B.map mN) ∧ Ar sg (B.map mS) ∧ ∀ x, x ∈ B → mA x + mN x ≤ ht ∧ Lie f (mA x) (m8 (mB x)) ∧ Bys (mB x)
def hpR (q : Nat → Nat → Nat) (R : Nat → Nat → Option Nat) (hp : Nat) : Prop := (hp = 24 ∨ hp = 25) ∧ R (q 20 0) 23 = some (q 20 hp) ∧ R (q 20 0) 24 = some (q 20 (49 - hp))
theorem hp_k {Y : Ly} {q : Nat → Nat → Nat} {nL W nB hp : Nat} (hC : SC Y q nL W nB) (h : hp = 24 ∨ hp = 25) : yK Y (q 20 hp) = 101 ∧ yN Y (q 20 hp) = 540000 := by
  rcases h with rfl | rfl
  · exact ⟨sk_20_24 hC, sn_20_24 hC⟩
  · exact ⟨sk_20_25 hC, sn_20_25 hC⟩
def FrM (q : Nat → Nat → Nat) (A : Nat → Nat → Prop) (M M' : Mm) : Prop := (∀ x, (∀ a b, A a b → x ≠ q a b) → mI M' x = mI M x ∧ mJ M' x = mJ M x) ∧ (∀ x, x ≠ q 20 0 → mR M' x = mR M x)
theorem FrM_refl (q : Nat → Nat → Nat) (A : Nat → Nat → Prop) (M : Mm) : FrM q A M M := ⟨fun _ _ => ⟨rfl, rfl⟩, fun _ _ => rfl⟩
theorem FrM_trans {q : Nat → Nat → Nat} {A : Nat → Nat → Prop} {M M' M'' : Mm} (h : FrM q A M M') (k : FrM q A M' M'') : FrM q A M M'' :=
  ⟨fun x hx => ⟨((k.1 x hx).1).trans (h.1 x hx).1, ((k.1 x hx).2).trans (h.1 x hx).2⟩, fun x hx => (k.2 x hx).trans (h.2 x hx)⟩
theorem FrM_mono {q : Nat → Nat → Nat} {A B : Nat → Nat → Prop} {M M' : Mm} (h : FrM q A M M') (hs : ∀ a b, A a b → B a b) : FrM q B M M' :=
  ⟨fun x hx => h.1 x (fun a b hab => hx a b (hs a b hab)), h.2⟩
theorem FrM_of {q : Nat → Nat → Nat} {A : Nat → Nat → Prop} {M M' : Mm} (h : Fr q A M M') : FrM q A M M' := ⟨h.1, fun x _ => by rw [h.2]⟩
theorem FrM_I {Y : Ly} {q : Nat → Nat → Nat} {nL W nB : Nat} (hC : SC Y q nL W nB) {A : Nat → Nat → Prop} {M M' : Mm} (h : FrM q A M M') {c d : Nat} (hn : ¬ A c d) : mI M' (q c d) = mI M (q c d) :=
  (h.1 (q c d) (fun a b hab e => hn (by rw [sinj hC] at e; rw [e.1, e.2]; exact hab))).1
theorem FrM_J {Y : Ly} {q : Nat → Nat → Nat} {nL W nB : Nat} (hC : SC Y q nL W nB) {A : Nat → Nat → Prop} {M M' : Mm} (h : FrM q A M M') {c d : Nat} (hn : ¬ A c d) : mJ M' (q c d) = mJ M (q c d) :=
  (h.1 (q c d) (fun a b hab e => hn (by rw [sinj hC] at e; rw [e.1, e.2]; exact hab))).2
set_option maxRecDepth 8000 in
theorem m_tidy {Y : Ly} {q : Nat → Nat → Nat} {nL W nB hp ht : Nat} {B : List Bm} {M : Mm} {Kn : Mm → Prop} (hC : SC Y q nL W nB) (hM : SM q (mR M)) (hH : hpR q (mR M) hp) (hn : mI M (q 20 0) 18 = nI B.length) (hB : BatM (mI M (q 20 20)) (mI M (q 20 21)) (mI M (q 20 22)) (mI M (q 20 23)) (mI M (q 20 hp)) ht B) (hbl : B.length ≤ 4500) (hht : ht ≤ 540000) (htl : tl B ≤ 540000)
    (h : ∀ M', FrM q (fun a b => a = 20 ∧ (b = 0 ∨ b = 21 ∨ b = 49 - hp)) M M' → (∀ f, f ≠ 23 → f ≠ 24 → mR M' (q 20 0) f = mR M (q 20 0) f) → hpR q (mR M') (49 - hp) → (∀ j, j ≠ 25 → mI M' (q 20 0) j = mI M (q 20 0) j) → mJ M' = mJ M → mI M' (q 20 0) 25 = nI (tl B) → BatM (mI M' (q 20 20)) (mI M' (q 20 21)) (mI M' (q 20 22)) (mI M' (q 20 23)) (mI M' (q 20 (49 - hp))) (tl B) (rt 0 B) → Kn M') : f_X12_tidy Y (q 20 0) M Kn := by
  obtain ⟨hhp, r23, r24⟩ := hH
  have hhp' : 49 - hp = 24 ∨ 49 - hp = 25 := by omega
  obtain ⟨kh, nh⟩ := hp_k hC hhp
  obtain ⟨ks, ns⟩ := hp_k hC hhp'
  obtain ⟨bo, ba, bl, bs, bx⟩ := hB
  have st : ∀ i x, B[i]? = some x → mA x + mN x ≤ ht ∧ Lie (mI M (q 20 hp)) (mA x) (m8 (mB x)) ∧ Bys (mB x) := fun i x hx => bx x (List.mem_of_getElem? hx)
  have hhne : hp ≠ 49 - hp := by omega
  have hlt : hp ≠ 0 ∧ hp ≠ 20 ∧ hp ≠ 21 ∧ hp ≠ 22 ∧ hp ≠ 23 ∧ 49 - hp ≠ 0 ∧ 49 - hp ≠ 20 ∧ 49 - hp ≠ 21 ∧ 49 - hp ≠ 22 ∧ 49 - hp ≠ 23 := by omega
  unfold f_X12_tidy
  -- the memory on the way
  refine LOOP3_inv (fun x1 x2 M3 => ∃ (i : Nat) (g a : Nat → Int32), i ≤ B.length ∧ x2 = nI i ∧ x1 = nI (tl (B.take i)) ∧ M3 = sI (sI M (q 20 (49 - hp)) g) (q 20 21) a ∧ (∀ j x, j < i → B[j]? = some x → a j = nI (tl (B.take j)) ∧ Lie g (tl (B.take j)) (m8 (mB x))) ∧ (∀ j, i ≤ j → a j = mI M (q 20 21) j)) (fun _ x2 _ => B.length - x2.toNatClampNeg) ?_ _ _ _ ⟨0, mI M (q 20 (49 - hp)), mI M (q 20 21), by omega, rfl, rfl, by rw [sI_same, sI_same], fun j x hj => by omega, fun j _ => rfl⟩
  rintro x1 x2 M3 again ⟨i, g, a, hi, rfl, rfl, rfl, hdone, hrest⟩ hag
  have hti := tl_take B i
  have no : ∀ c, c ≠ 49 - hp → c ≠ 21 → ∀ g a, mI (sI (sI M (q 20 (49 - hp)) g) (q 20 21) a) (q 20 c) = mI M (q 20 c) := fun c h1 h2 g a => by
    rw [I_ne hC _ _ (by omega), I_ne hC _ _ (by omega)]
  unfold L_X12_tidy_4
  rw [no 0 (by omega) (by omega), hn, nI_cmp (by omega) (by omega)]
  refine ⟨sk_20_0 hC, fun c => ⟨_, r23, _, r24, fun M8 e8 M9 e9 M10 e10 => ?_⟩, fun c => ?_⟩
  · have hie : i = B.length := by omega
    subst hie
    rw [List.take_of_length_le (Nat.le_refl _)] at e10
    have e9' : mR M9 = m1 (mR M) (q 20 0) (m1 (m1 (mR M (q 20 0)) 23 (some (q 20 (49 - hp)))) 24 (some (q 20 hp))) := by
      rw [e9, e8, mR_sR, mR_sR, m1_self, m1_m1]; rfl
    have i9 : mI M9 = mI (sI (sI M (q 20 (49 - hp)) g) (q 20 21) a) := by rw [e9, e8]; rfl
    have j9 : mJ M9 = mJ M := by rw [e9, e8]; rfl
    have i10 : mI M10 (q 20 0) = m1 (mI M (q 20 0)) 25 (nI (tl B)) := by rw [e10, mI_sI_self, i9, no 0 (by omega) (by omega)]
    have n10 : ∀ a' b', ¬ (a' = 20 ∧ b' = 0) → mI M10 (q a' b') = mI (sI (sI M (q 20 (49 - hp)) g) (q 20 21) a) (q a' b') := fun a' b' hab => by
      rw [e10, mI_sI_ne _ _ (q_ne hC hab), i9]
    have r10 : mR M10 = mR M9 := by rw [e10]; rfl
    have j10 : mJ M10 = mJ M := by rw [e10]; exact j9
    refine h M10 ⟨fun x hx => ⟨?_, by rw [j10]⟩, fun x hx => by rw [r10, e9', m1_ne _ _ hx]⟩ (fun f h1 h2 => by rw [r10, e9', m1_self]; simp [m1, h1, h2]) ⟨by omega, ?_, ?_⟩ (fun j hj => by rw [i10]; simp [m1, hj]) j10 (by rw [i10]; simp [m1]) ?_
    · rw [e10, mI_sI_ne _ _ (hx 20 0 ⟨rfl, by simp⟩), i9, mI_sI_ne _ _ (hx 20 21 ⟨rfl, by simp⟩), mI_sI_ne _ _ (hx 20 (49 - hp) ⟨rfl, by simp⟩)]
    · rw [r10, e9', m1_self]; simp [m1]
    · rw [r10, e9', m1_self, show 49 - (49 - hp) = hp from by omega]; simp [m1]
    · rw [n10 _ _ (by omega), n10 _ _ (by omega), n10 _ _ (by omega), n10 _ _ (by omega), n10 _ _ (by omega), no 20 (by omega) (by omega), no 22 (by omega) (by omega), no 23 (by omega) (by omega), mI_sI_self, I_ne hC _ _ (by omega), mI_sI_self]
      have get : ∀ j y, (rt 0 B)[j]? = some y → ∃ x, B[j]? = some x ∧ y = (mL x, mS x, tl (B.take j), mB x) := by
        intro j y hy
        rw [rt_get] at hy
        cases hx : B[j]? with
        | none => rw [hx] at hy; cases hy
        | some x => rw [hx] at hy; cases hy; exact ⟨x, rfl, by rw [Nat.zero_add]⟩
      refine ⟨Ar_mk (fun j y hy => ?_), Ar_mk (fun j y hy => ?_), Ar_mk (fun j y hy => ?_), Ar_mk (fun j y hy => ?_), fun y hy => ?_⟩
      · obtain ⟨x, hx, rfl⟩ := get j y hy; have := Ar_map bo hx; exact this
      · obtain ⟨x, hx, rfl⟩ := get j y hy; exact (hdone j x (some_lt hx) hx).1
      · obtain ⟨x, hx, rfl⟩ := get j y hy; have := Ar_map bl hx; exact this
      · obtain ⟨x, hx, rfl⟩ := get j y hy; have := Ar_map bs hx; exact this
      · obtain ⟨j, hj⟩ := List.getElem?_of_mem hy
        obtain ⟨x, hx, rfl⟩ := get j y hj
        refine ⟨?_, (hdone j x (some_lt hx) hx).2, (st j x hx).2.2⟩
        have h1 := tl_s hx
        have h2 := tl_take B (j + 1)
        show tl (B.take j) + mN x ≤ tl B
        omega
  · obtain ⟨x, hx⟩ := lt_some (show i < B.length by omega)
    obtain ⟨sx1, sx2, sx3⟩ := st i x hx
    have hts := tl_s hx
    have htt := tl_take B (i + 1)
    refine LOOP2_inv (fun x11 M12 => ∃ k, k ≤ mN x ∧ x11 = nI k ∧ M12 = sI (sI M (q 20 (49 - hp)) (cp g (mI M (q 20 hp)) (mA x) (tl (B.take i)) k)) (q 20 21) a) (fun x11 _ => mN x - x11.toNatClampNeg) ?_ _ _ ⟨0, by omega, rfl, by rw [cp_0]⟩
    rintro x11 M12 again2 ⟨k, hk, rfl, rfl⟩ hag2
    unfold L_X12_tidy_14
    refine ⟨_, sm_21 hM, sk_20_22 hC, by rw [sn_20_22 hC]; exact vp_in_nI (by omega) (by decide), ?_⟩
    rw [nI_clamp (by omega), no 22 (by omega) (by omega), Ar_map bl hx, nI_cmp (by omega) (by omega)]
    refine ⟨fun c2 => ⟨_, sm_20 hM, sk_20_21 hC, by rw [sn_20_21 hC]; exact vp_in_nI (by omega) (by decide), fun M20 e20 => ?_⟩, fun c2 => ?_⟩
    · rw [mI_sI_self, sI_sI] at e20
      subst e20
      refine ⟨_, sm_21 hM, sk_20_22 hC, by rw [sn_20_22 hC]; exact vp_in_nI (by omega) (by decide), fun x24 e24 x25 e25 => ?_⟩
      rw [no 22 (by omega) (by omega), Ar_map bl hx, nI_add] at e24
      rw [nI_1] at e25
      subst e24 e25
      have hkn : k = mN x := by omega
      subst hkn
      refine hag _ _ _ ⟨i + 1, _, _, by omega, rfl, by rw [hts], rfl, fun j y hj hy => ?_, fun j hj => ?_⟩ ?_
      · by_cases e : j = i
        · subst e
          rw [hx] at hy; cases hy
          exact ⟨by rw [m1_self], cp_Lie sx2 (by rw [m8_len]; exact Nat.le_refl _)⟩
        · obtain ⟨d1, d2⟩ := hdone j y (by omega) hy
          refine ⟨by rw [m1_ne _ _ e, d1], cp_keep d2 (Or.inl ?_)⟩
          rw [m8_len]
          have h1 := tl_s hy
          have h2 : tl (B.take (j + 1)) ≤ tl (B.take i) := by
            have := tl_take (B.take i) (j + 1)
            rwa [List.take_take, Nat.min_eq_left (by omega)] at this
          unfold mN at h1
          omega
      · rw [m1_ne _ _ (show j ≠ i by omega)]; exact hrest j (by omega)
      · rw [nI_clamp (by omega), nI_clamp (by omega)]; omega
    · refine ⟨_, r24, _, r23, _, sm_20 hM, sk_20_21 hC, by rw [sn_20_21 hC]; exact vp_in_nI (by omega) (by decide), kh, ?_, ks, ?_, fun M35 e35 x36 e36 => ?_⟩
      · rw [mI_sI_self, hrest i (Nat.le_refl _), Ar_map ba hx, nI_add, nh]; exact vp_in_nI (by omega) (by decide)
      · rw [nI_add, ns]; exact vp_in_nI (by omega) (by decide)
      · rw [mI_sI_self, hrest i (Nat.le_refl _), Ar_map ba hx, nI_add, nI_add, nI_clamp (by omega), nI_clamp (by omega), no hp (by omega) (by omega), I_ne hC _ _ (by omega), mI_sI_self] at e35
        rw [nI_1] at e36
        subst e36
        have e35' : M35 = sI (sI M (q 20 (49 - hp)) (cp g (mI M (q 20 hp)) (mA x) (tl (B.take i)) (k + 1))) (q 20 21) a := by
          rw [e35, sI_comm _ _ _ (q_ne hC (by omega)), sI_sI]
          congr 2
          funext j
          unfold cp
          simp only [m1]
          by_cases e : j = tl (B.take i) + k
          · subst e
            rw [if_pos rfl, if_pos (by omega)]
            congr 1; omega
          · rw [if_neg e]
            by_cases g2 : tl (B.take i) ≤ j ∧ j < tl (B.take i) + k
            · rw [if_pos g2, if_pos (by omega)]
            · rw [if_neg g2, if_neg (by omega)]
        subst e35'
        refine hag2 _ _ ⟨k + 1, by omega, rfl, rfl⟩ ?_
        rw [nI_clamp (by omega), nI_clamp (by omega)]; omega
