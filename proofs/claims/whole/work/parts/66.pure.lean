/-! the model's logs -/
def SB (S : List Sg) : List (Nat × Bt) := S.flatMap (fun s => s.2.map (fun b => (s.1, b)))
def ofL (l : Nat) (B : List Bm) : List Bm := B.filter (fun x => decide (mL x = l))
def Lnk (nL : Nat) (S : Nat → List Sg) (B : List Bm) : Prop := (∀ x, x ∈ B → mL x ≤ nL) ∧ ∀ l, l ≤ nL → (ofL l B).map (fun x => (mS x, mB x)) = SB (S l)
theorem sm_congr {f g : Nat → Nat} : ∀ {n : Nat}, (∀ i, i < n → f i = g i) → sm f n = sm g n
  | 0, _ => rfl
  | n + 1, h => by simp only [sm]; rw [sm_congr (n := n) (fun i hi => h i (by omega)), h n (by omega)]
theorem sm_ind (l c : Nat) : ∀ n, sm (fun i => if l = i then c else 0) n = if l < n then c else 0
  | 0 => by simp [sm]
  | n + 1 => by
    have ih := sm_ind l c n
    simp only [sm]
    rw [ih]
    by_cases h1 : l < n
    · rw [if_pos h1, if_neg (by omega), if_pos (by omega)]; rfl
    · rw [if_neg h1]
      by_cases h2 : l = n
      · rw [if_pos h2, if_pos (by omega)]; omega
      · rw [if_neg h2, if_neg (by omega)]
theorem tl_sm {nL : Nat} : ∀ (B : List Bm), (∀ x, x ∈ B → mL x ≤ nL) → sm (fun l => tl (ofL l B)) (nL + 1) = tl B
  | [], _ => by
    have : ∀ n, sm (fun l => tl (ofL l [])) n = 0 := by
      intro n
      induction n with
      | zero => rfl
      | succ n ih => simp only [sm, ih]; rfl
    exact this _
  | x :: B, h => by
    have e : (fun l => tl (ofL l (x :: B))) = fun l => (if mL x = l then mN x else 0) + tl (ofL l B) := by
      funext l
      unfold ofL
      by_cases g : mL x = l
      · rw [if_pos g, List.filter_cons_of_pos (by simpa using g)]; simp [tl]
      · rw [if_neg g, List.filter_cons_of_neg (by simpa using g), Nat.zero_add]
    rw [e, sm_add, sm_ind, tl_sm B (fun y hy => h y (List.mem_cons_of_mem _ hy)), if_pos (by have := h x List.mem_cons_self; omega)]
    simp [tl]
theorem SB_szs (S : List Sg) : ((SB S).map (fun p => p.2.length)).sum = szs S := by
  unfold SB szs
  induction S with
  | nil => rfl
  | cons s S ih =>
    simp only [List.flatMap_cons, List.map_append, List.sum_append, ih, List.map_cons, List.sum_cons]
    congr 1
    simp [sz, List.map_map, Function.comp_def]
theorem szs_sm {nL W nB : Nat} {S : Nat → List Sg} (hG : Geo nL W nB S) : ∀ n, n ≤ nL + 1 → sm (fun l => szs (S l)) n ≤ W * 1024 * (FFs S n).length
  | 0, _ => by simp [sm]
  | n + 1, h => by
    have ih := szs_sm hG n (by omega)
    have h1 := szs_le (S := S n) (m := W * 1024) (fun s hs => ((hG.1 n (by omega)).2 s hs).2.2.1)
    simp only [sm, FFs, List.length_append, List.length_map, Nat.mul_add]
    rw [Nat.mul_comm] at h1
    omega
theorem Lnk_tl {nL W nB : Nat} {S : Nat → List Sg} {B : List Bm} (hG : Geo nL W nB S) (h : Lnk nL S B) : tl B ≤ nB * 1024 := by
  rw [← tl_sm B h.1]
  have e : sm (fun l => tl (ofL l B)) (nL + 1) = sm (fun l => szs (S l)) (nL + 1) := by
    refine sm_congr (fun l hl => ?_)
    rw [← SB_szs, ← h.2 l (by omega), List.map_map]
    rfl
  rw [e]
  have h1 := szs_sm hG (nL + 1) (Nat.le_refl _)
  have h2 := Geo_segs hG
  have h3 : W * 1024 * (FFs S (nL + 1)).length ≤ nB * 1024 := by
    rw [Nat.mul_right_comm]
    exact Nat.mul_le_mul_right _ h2
  omega
theorem SB_mem {S : List Sg} {k : Nat} {b : Bt} (h : (k, b) ∈ SB S) : ∃ s, s ∈ S ∧ s.1 = k ∧ b ∈ s.2 := by
  unfold SB at h
  obtain ⟨s, hs, hb⟩ := List.mem_flatMap.mp h
  obtain ⟨b', hb', e⟩ := List.mem_map.mp hb
  cases e
  exact ⟨s, hs, rfl, hb'⟩
theorem Lnk_mem {nL : Nat} {S : Nat → List Sg} {B : List Bm} (h : Lnk nL S B) {x : Bm} (hx : x ∈ B) : ∃ s, s ∈ S (mL x) ∧ s.1 = mS x ∧ mB x ∈ s.2 := by
  have h1 : (mS x, mB x) ∈ SB (S (mL x)) := by
    rw [← h.2 (mL x) (h.1 x hx)]
    exact List.mem_map.mpr ⟨x, List.mem_filter.mpr ⟨hx, by simp⟩, rfl⟩
  exact SB_mem h1
theorem Lnk_count {nL W nB : Nat} {S : Nat → List Sg} {B : List Bm} (hG : Geo nL W nB S) (h : Lnk nL S B) : B.length * 61 ≤ nB * 1024 := by
  refine Nat.le_trans ?_ (Lnk_tl hG h)
  have h61 : ∀ x, x ∈ B → 61 ≤ mN x := by
    intro x hx
    obtain ⟨s, hs, -, hb⟩ := Lnk_mem h hx
    exact ((hG.1 _ (h.1 x hx)).2 s hs).2.2.2.2 _ hb
  clear h
  induction B with
  | nil => simp
  | cons x B ih =>
    have h1 := h61 x List.mem_cons_self
    have h2 := ih (fun y hy => h61 y (List.mem_cons_of_mem _ hy))
    simp only [List.length_cons, tl, List.map_cons, List.sum_cons]
    unfold tl at h2
    omega
theorem rt_ofL (l : Nat) : ∀ (B : List Bm) (a : Nat), (ofL l (rt a B)).map (fun x => (mS x, mB x)) = (ofL l B).map (fun x => (mS x, mB x))
  | [], _ => rfl
  | x :: B, a => by
    simp only [rt, ofL]
    by_cases g : mL x = l
    · rw [List.filter_cons_of_pos (by rw [decide_eq_true_eq]; exact g), List.filter_cons_of_pos (by rw [decide_eq_true_eq]; exact g)]
      simp only [List.map_cons]
      have := rt_ofL l B (a + mN x)
      unfold ofL at this
      rw [this]; rfl
    · rw [List.filter_cons_of_neg (by rw [decide_eq_true_eq]; exact g), List.filter_cons_of_neg (by rw [decide_eq_true_eq]; exact g)]
      exact rt_ofL l B (a + mN x)
theorem rt_mL : ∀ (B : List Bm) (a : Nat) (x : Bm), x ∈ rt a B → ∃ y, y ∈ B ∧ mL x = mL y
  | [], _, _, h => by cases h
  | y :: B, a, x, h => by
    simp only [rt, List.mem_cons] at h
    rcases h with rfl | h
    · exact ⟨y, List.mem_cons_self, rfl⟩
    · obtain ⟨z, hz, e⟩ := rt_mL B _ x h
      exact ⟨z, List.mem_cons_of_mem _ hz, e⟩
theorem Lnk_rt {nL : Nat} {S : Nat → List Sg} {B : List Bm} (h : Lnk nL S B) : Lnk nL S (rt 0 B) :=
  ⟨fun x hx => by obtain ⟨y, hy, e⟩ := rt_mL B 0 x hx; rw [e]; exact h.1 y hy, fun l hl => by rw [rt_ofL]; exact h.2 l hl⟩
theorem Add_SB {nL W nB l k x : Nat} {S : Nat → List Sg} {b : Bt} {T : List Sg} (h : AddR nL W nB S l b T k x) : SB T = SB (S l) ++ [(k, b)] := by
  rcases h with ⟨S0, bs, e1, e2, e3, e4⟩ | ⟨e0, e1, e2, e3, e4⟩
  · rw [e3, e1]; simp [SB]
  · rw [e3]; simp [SB]
theorem Lnk_snoc {nL W nB l k x a : Nat} {S : Nat → List Sg} {b : Bt} {T : List Sg} {B : List Bm} (hl : l ≤ nL) (h : AddR nL W nB S l b T k x) (hk : Lnk nL S B) : Lnk nL (m1 S l T) (B ++ [(l, k, a, b)]) := by
  refine ⟨fun y hy => ?_, fun l' hl' => ?_⟩
  · rcases List.mem_append.mp hy with hy | hy
    · exact hk.1 y hy
    · simp only [List.mem_singleton] at hy
      subst hy; exact hl
  · unfold ofL
    rw [List.filter_append, List.map_append]
    have := hk.2 l' hl'
    unfold ofL at this
    rw [this]
    by_cases e : l' = l
    · subst e
      rw [m1_self, Add_SB h, List.filter_cons_of_pos (by simp [mL])]
      rfl
    · rw [m1_ne _ _ e, List.filter_cons_of_neg (by rw [decide_eq_true_eq]; exact fun z => e (Eq.symm z))]
      simp
def LogM (q : Nat → Nat → Nat) (nL W nB : Nat) (M : Mm) (st en : Nat → Int64) (S : Nat → List Sg) (B : List Bm) (hp ht : Nat) : Prop :=
  (mI M (q 20 0) 1 = nI nL ∧ mI M (q 20 0) 2 = nI W ∧ mI M (q 20 0) 3 = nI nB) ∧ mI M (q 20 0) 18 = nI B.length ∧ mI M (q 20 0) 25 = nI ht ∧ ht ≤ 524288 ∧ hpR q (mR M) hp ∧ BatM (mI M (q 20 20)) (mI M (q 20 21)) (mI M (q 20 22)) (mI M (q 20 23)) (mI M (q 20 hp)) ht B ∧ SegM nL (mI M (q 20 29)) (mI M (q 20 30)) (mI M (q 20 31)) S ∧ (∀ l, l ≤ nL → mJ M (q 20 27) l = st l ∧ mJ M (q 20 28) l = en l) ∧ Lnk nL S B
def svA : Nat → Nat → Prop := fun a b => a = 20 ∧ (b = 0 ∨ b = 20 ∨ b = 21 ∨ b = 22 ∨ b = 23 ∨ b = 24 ∨ b = 25 ∨ b = 28 ∨ b = 29 ∨ b = 30 ∨ b = 31 ∨ b = 32)
theorem app_nil_or {α : Type} (xs : List α) : xs = [] ∨ ∃ ys y, xs = ys ++ [y] := by
  rcases List.eq_nil_or_concat xs with h | ⟨ys, y, h⟩
  · exact Or.inl h
  · exact Or.inr ⟨ys, y, by rw [h, List.concat_eq_append]⟩
theorem snoc_get {α : Type} {xs : List α} {y z : α} {i : Nat} (h : (xs ++ [y])[i]? = some z) : (i = xs.length ∧ z = y) ∨ (i < xs.length ∧ xs[i]? = some z) := by
  have hi := some_lt h
  rw [List.length_append, List.length_singleton] at hi
  rw [List.getElem?_append] at h
  by_cases g : i < xs.length
  · rw [if_pos g] at h; exact Or.inr ⟨g, h⟩
  · rw [if_neg g] at h
    have : i = xs.length := by omega
    subst this
    rw [Nat.sub_self] at h
    simp at h
    exact Or.inl ⟨rfl, h.symm⟩
theorem snoc_last {α : Type} (xs : List α) (y : α) : (xs ++ [y])[xs.length]? = some y := by simp
theorem snoc_lt {α : Type} {xs : List α} {y z : α} {i : Nat} (h : xs[i]? = some z) : (xs ++ [y])[i]? = some z := by
  rw [List.getElem?_append, if_pos (some_lt h)]; exact h
