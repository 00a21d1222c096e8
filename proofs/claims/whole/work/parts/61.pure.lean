/-! how segments lie -/
def Geo (nL W nB : Nat) (S : Nat → List Sg) : Prop := (∀ l, l ≤ nL → (S l).length ≤ 60 ∧ ∀ s, s ∈ S l → nL + 2 ≤ s.1 ∧ s.1 + W ≤ nB ∧ sz s ≤ W * 1024 ∧ s.2 ≠ [] ∧ ∀ b, b ∈ s.2 → 61 ≤ b.length) ∧ ∀ b, cv W (FFs S (nL + 1)) b ≤ 1
def sm (f : Nat → Nat) : Nat → Nat
  | 0 => 0
  | n + 1 => sm f n + f n
theorem sm_add (f g : Nat → Nat) : ∀ n, sm (fun b => f b + g b) n = sm f n + sm g n
  | 0 => rfl
  | n + 1 => by simp only [sm, sm_add f g n]; omega
theorem sm_le {f : Nat → Nat} (h : ∀ b, f b ≤ 1) : ∀ n, sm f n ≤ n
  | 0 => Nat.le_refl _
  | n + 1 => by
    have := sm_le h n
    have := h n
    simp only [sm]; omega
theorem sm_1 (W s : Nat) : ∀ n, sm (fun b => cv W [s] b) n = min (n - s) W
  | 0 => by simp [sm]
  | n + 1 => by
    have ih := sm_1 W s n
    simp only [sm]
    rw [ih, cv_1]
    split <;> omega
theorem sm_cv (W nB : Nat) : ∀ (F : List Nat), (∀ s, s ∈ F → s + W ≤ nB) → sm (fun b => cv W F b) nB = W * F.length
  | [], _ => by
    have : ∀ n, sm (fun b => cv W [] b) n = 0 := by
      intro n
      induction n with
      | zero => rfl
      | succ n ih => simp only [sm, ih]; rfl
    simp [this]
  | s :: F, h => by
    have e : (fun b => cv W (s :: F) b) = fun b => cv W [s] b + cv W F b := by
      funext b
      exact cv_app W [s] F b
    rw [e, sm_add, sm_1, sm_cv W nB F (fun x hx => h x (List.mem_cons_of_mem _ hx))]
    have := h s List.mem_cons_self
    rw [List.length_cons, Nat.mul_add]
    omega
theorem FFs_mem {S : Nat → List Sg} {n x : Nat} (h : x ∈ FFs S n) : ∃ l, l < n ∧ ∃ s, s ∈ S l ∧ s.1 = x := by
  induction n with
  | zero => cases h
  | succ n ih =>
    simp only [FFs, List.mem_append, List.mem_map] at h
    rcases h with h | ⟨s, hs, e⟩
    · obtain ⟨l, hl, r⟩ := ih h
      exact ⟨l, by omega, r⟩
    · exact ⟨n, by omega, s, hs, e⟩
theorem FFs_len (S : Nat → List Sg) : ∀ {n l : Nat}, l < n → (S l).length ≤ (FFs S n).length
  | 0, l, h => by omega
  | n + 1, l, h => by
    simp only [FFs, List.length_append, List.length_map]
    by_cases e : l = n
    · subst e; omega
    · have := FFs_len S (show l < n by omega)
      omega
theorem Geo_segs {nL W nB : Nat} {S : Nat → List Sg} (h : Geo nL W nB S) : W * (FFs S (nL + 1)).length ≤ nB := by
  rw [← sm_cv W nB]
  · exact sm_le h.2 nB
  · intro x hx
    obtain ⟨l, hl, s, hs, e⟩ := FFs_mem hx
    rw [← e]
    exact ((h.1 l (by omega)).2 s hs).2.1
theorem sz_61 {s : Sg} (h : ∀ b, b ∈ s.2 → 61 ≤ b.length) : s.2.length * 61 ≤ sz s := by
  obtain ⟨k, bs⟩ := s
  unfold sz
  simp only at h ⊢
  induction bs with
  | nil => simp
  | cons b bs ih =>
    have h1 := h b List.mem_cons_self
    have h2 := ih (fun x hx => h x (List.mem_cons_of_mem _ hx))
    simp only [List.length_cons, List.map_cons, List.sum_cons]; omega
def szs (S : List Sg) : Nat := (S.map sz).sum
theorem szs_le {S : List Sg} {m : Nat} (h : ∀ s, s ∈ S → sz s ≤ m) : szs S ≤ S.length * m := by
  unfold szs
  induction S with
  | nil => simp
  | cons s S ih =>
    have h1 := h s List.mem_cons_self
    have h2 := ih (fun x hx => h x (List.mem_cons_of_mem _ hx))
    simp only [List.map_cons, List.sum_cons, List.length_cons, Nat.add_mul]; omega
theorem BS_61 {S : List Sg} (h : ∀ s, s ∈ S → ∀ b, b ∈ s.2 → 61 ≤ b.length) : (BS S).length * 61 ≤ szs S := by
  unfold BS szs
  induction S with
  | nil => simp
  | cons s S ih =>
    have h1 := sz_61 (h s List.mem_cons_self)
    have h2 := ih (fun x hx => h x (List.mem_cons_of_mem _ hx))
    simp only [List.flatMap_cons, List.length_append, List.map_cons, List.sum_cons, Nat.add_mul]; omega
theorem Geo_szs {nL W nB l : Nat} {S : Nat → List Sg} (h : Geo nL W nB S) (hl : l ≤ nL) : szs (S l) ≤ nB * 1024 := by
  have h1 := szs_le (S := S l) (m := W * 1024) (fun s hs => ((h.1 l hl).2 s hs).2.2.1)
  have h2 := Geo_segs h
  have h3 := FFs_len S (show l < nL + 1 by omega)
  have h4 : (S l).length * (W * 1024) ≤ nB * 1024 := by
    rw [← Nat.mul_assoc]
    apply Nat.mul_le_mul_right
    rw [Nat.mul_comm]
    exact Nat.le_trans (Nat.mul_le_mul_left W h3) h2
  omega
theorem Geo_count {nL W nB l : Nat} {S : Nat → List Sg} (h : Geo nL W nB S) (hl : l ≤ nL) : (PS (S l)).length * 61 ≤ nB * 1024 := by
  rw [PS_len]
  exact Nat.le_trans (BS_61 (fun s hs => ((h.1 l hl).2 s hs).2.2.2.2)) (Geo_szs h hl)
theorem pbs_in : ∀ {bs : List Bt} {a : Nat} {p : Nat × Bt}, p ∈ pbs a bs → a ≤ p.1 ∧ p.1 + p.2.length ≤ a + (bs.map List.length).sum ∧ p.2 ∈ bs
  | [], _, _, h => by cases h
  | b :: bs, a, p, h => by
    simp only [pbs, List.mem_cons] at h
    simp only [List.map_cons, List.sum_cons, List.mem_cons]
    rcases h with rfl | h
    · exact ⟨Nat.le_refl _, by simp, Or.inl rfl⟩
    · obtain ⟨h1, h2, h3⟩ := pbs_in h
      exact ⟨by omega, by omega, Or.inr h3⟩
theorem PS_in {S : List Sg} {p : Nat × Bt} (h : p ∈ PS S) : ∃ s, s ∈ S ∧ s.1 * 1024 ≤ p.1 ∧ p.1 + p.2.length ≤ s.1 * 1024 + sz s ∧ p.2 ∈ s.2 := by
  unfold PS at h
  obtain ⟨s, hs, hp⟩ := List.mem_flatMap.mp h
  exact ⟨s, hs, pbs_in hp⟩
theorem cv_mem {W : Nat} {F : List Nat} {s b : Nat} (h : s ∈ F) (h1 : s ≤ b) (h2 : b < s + W) : 1 ≤ cv W F b := by
  unfold cv
  have : s ∈ F.filter (fun s => decide (s ≤ b ∧ b < s + W)) := List.mem_filter.mpr ⟨h, by simp; omega⟩
  exact List.length_pos_of_mem this
theorem FFs_ge {W : Nat} {S : Nat → List Sg} {b : Nat} : ∀ {n l : Nat}, l < n → cv W ((S l).map (fun s => s.1)) b ≤ cv W (FFs S n) b
  | 0, l, h => by omega
  | n + 1, l, h => by
    simp only [FFs, cv_app]
    by_cases e : l = n
    · subst e; omega
    · have := FFs_ge (W := W) (S := S) (b := b) (show l < n by omega)
      omega
theorem FFs_ge2 {W : Nat} {S : Nat → List Sg} {b : Nat} : ∀ {n l l' : Nat}, l < n → l' < n → l ≠ l' → cv W ((S l).map (fun s => s.1)) b + cv W ((S l').map (fun s => s.1)) b ≤ cv W (FFs S n) b
  | 0, l, l', h, _, _ => by omega
  | n + 1, l, l', h, h', hne => by
    simp only [FFs, cv_app]
    by_cases e : l = n
    · have := FFs_ge (W := W) (S := S) (b := b) (show l' < n by omega)
      subst e; omega
    · by_cases e' : l' = n
      · have := FFs_ge (W := W) (S := S) (b := b) (show l < n by omega)
        subst e'; omega
      · have := FFs_ge2 (W := W) (S := S) (b := b) (show l < n by omega) (show l' < n by omega) hne
        omega
theorem FFs_upd {W : Nat} {S : Nat → List Sg} {T : List Sg} {l b : Nat} : ∀ {n : Nat}, (n ≤ l → cv W (FFs (m1 S l T) n) b = cv W (FFs S n) b) ∧ (l < n → cv W (FFs (m1 S l T) n) b + cv W ((S l).map (fun s => s.1)) b = cv W (FFs S n) b + cv W (T.map (fun s => s.1)) b)
  | 0 => ⟨fun _ => rfl, fun h => by omega⟩
  | n + 1 => by
    have ih := FFs_upd (W := W) (S := S) (T := T) (l := l) (b := b) (n := n)
    simp only [FFs, cv_app]
    refine ⟨fun h => ?_, fun h => ?_⟩
    · rw [ih.1 (by omega), m1_ne _ _ (show n ≠ l by omega)]
    · by_cases e : n = l
      · subst e
        rw [ih.1 (by omega), m1_self]; omega
      · rw [m1_ne _ _ e]
        have := ih.2 (by omega)
        omega
/-- the segments that l has with batch b, which lies behind x bytes of segment k -/
def AddR (nL W nB : Nat) (S : Nat → List Sg) (l : Nat) (b : Bt) (T : List Sg) (k x : Nat) : Prop :=
  (∃ S0 bs, S l = S0 ++ [(k, bs)] ∧ sz (k, bs) + b.length ≤ W * 1024 ∧ T = S0 ++ [(k, bs ++ [b])] ∧ x = sz (k, bs)) ∨
  ((∀ S0 s, S l = S0 ++ [s] → W * 1024 < sz s + b.length) ∧ (S l).length < 60 ∧ Lst (nL + 2) W nB (FFs S (nL + 1)) k ∧ T = S l ++ [(k, [b])] ∧ x = 0)
def AddF (nL W nB : Nat) (S : Nat → List Sg) (l : Nat) (n : Nat) : Prop :=
  (∀ S0 s, S l = S0 ++ [s] → W * 1024 < sz s + n) ∧ ((S l).length = 60 ∨ NoR (nL + 2) W nB (FFs S (nL + 1)))
theorem Add_Geo {nL W nB l k x : Nat} {S : Nat → List Sg} {b : Bt} {T : List Sg} (hG : Geo nL W nB S) (hl : l ≤ nL) (h61 : 61 ≤ b.length) (hb : b.length ≤ W * 1024) (h : AddR nL W nB S l b T k x) : Geo nL W nB (m1 S l T) := by
  refine ⟨fun l' hl' => ?_, fun c => ?_⟩
  · by_cases e : l' = l
    · subst e
      rw [m1_self]
      have g := hG.1 l' hl'
      rcases h with ⟨S0, bs, e1, e2, e3, e4⟩ | ⟨e0, e1, e2, e3, e4⟩
      · rw [e1] at g
        rw [e3]
        refine ⟨by have := g.1; simpa using this, fun s hs => ?_⟩
        rcases List.mem_append.mp hs with hs | hs
        · exact g.2 s (List.mem_append_left _ hs)
        · simp only [List.mem_singleton] at hs
          subst hs
          have g2 := g.2 (k, bs) (by simp)
          refine ⟨g2.1, g2.2.1, by rw [sz_add]; exact e2, by simp, fun y hy => ?_⟩
          rcases List.mem_append.mp hy with hy | hy
          · exact g2.2.2.2.2 y hy
          · simp only [List.mem_singleton] at hy
            subst hy; exact h61
      · rw [e3]
        refine ⟨by simp; omega, fun s hs => ?_⟩
        rcases List.mem_append.mp hs with hs | hs
        · exact g.2 s hs
        · simp only [List.mem_singleton] at hs
          subst hs
          refine ⟨e2.1, e2.2.1, by simp [sz]; omega, by simp, fun y hy => ?_⟩
          simp only [List.mem_singleton] at hy
          subst hy; exact h61
    · rw [m1_ne _ _ e]
      exact hG.1 l' hl'
  · have hu := (FFs_upd (W := W) (S := S) (T := T) (l := l) (b := c) (n := nL + 1)).2 (by omega)
    have hc := hG.2 c
    rcases h with ⟨S0, bs, e1, e2, e3, e4⟩ | ⟨e0, e1, e2, e3, e4⟩
    · rw [e3, e1] at hu
      simp only [List.map_append, List.map_cons, List.map_nil] at hu
      rw [e3]; omega
    · rw [e3, List.map_append, cv_app] at hu
      simp only [List.map_cons, List.map_nil] at hu
      rw [cv_1] at hu
      rw [e3]
      by_cases g : k ≤ c ∧ c < k + W
      · rw [if_pos g] at hu
        have := e2.2.2.1 c g.1 g.2
        omega
      · rw [if_neg g] at hu; omega
set_option maxRecDepth 8000 in
theorem Add_reg {nL W nB l k x : Nat} {S : Nat → List Sg} {b : Bt} {T : List Sg} (hG : Geo nL W nB S) (hl : l ≤ nL) (h61 : 61 ≤ b.length) (hb : b.length ≤ W * 1024) (h : AddR nL W nB S l b T k x) : nL + 2 ≤ k ∧ k + W ≤ nB ∧ x + b.length ≤ W * 1024 ∧ ∀ l', l' ≤ nL → ∀ p, p ∈ PS (S l') → p.1 + p.2.length ≤ k * 1024 + x ∨ k * 1024 + x + b.length ≤ p.1 := by
  rcases h with ⟨S0, bs, e1, e2, e3, e4⟩ | ⟨e0, e1, e2, e3, e4⟩
  · have g := (hG.1 l hl).2 (k, bs) (by rw [e1]; simp)
    refine ⟨g.1, g.2.1, by omega, fun l' hl' p hp => ?_⟩
    obtain ⟨s, hs, h1, h2, h3⟩ := PS_in hp
    have gs := (hG.1 l' hl').2 s hs
    have sep : (l' = l ∧ s = (k, bs)) ∨ s.1 + W ≤ k ∨ k + W ≤ s.1 := by
      apply Classical.byContradiction
      intro hc
      simp only [not_or, Nat.not_le] at hc
      obtain ⟨c1, c2, c3⟩ := hc
      have hW : 1 ≤ W := by
        apply Classical.byContradiction
        intro hW
        rw [show W = 0 from by omega] at e2
        omega
      obtain ⟨m, hm1, hm2, hm3, hm4⟩ : ∃ m, k ≤ m ∧ m < k + W ∧ s.1 ≤ m ∧ m < s.1 + W := ⟨max k s.1, by omega, by omega, by omega, by omega⟩
      have hcm := hG.2 m
      by_cases e : l' = l
      · subst e
        rw [e1] at hs
        rcases List.mem_append.mp hs with hs | hs
        · have a1 := FFs_ge (W := W) (S := S) (b := m) (show l' < nL + 1 by omega)
          rw [e1, List.map_append, cv_app] at a1
          have a2 := cv_mem (W := W) (F := S0.map (fun s => s.1)) (b := m) (List.mem_map.mpr ⟨s, hs, rfl⟩) hm3 hm4
          have a3 := cv_mem (W := W) (F := [(k, bs)].map (fun s : Sg => s.1)) (s := k) (b := m) (by simp) hm1 hm2
          omega
        · simp only [List.mem_singleton] at hs
          exact c1 ⟨rfl, hs⟩
      · have a1 := FFs_ge2 (W := W) (S := S) (b := m) (show l < nL + 1 by omega) (show l' < nL + 1 by omega) (Ne.symm e)
        have a2 := cv_mem (W := W) (F := (S l').map (fun s => s.1)) (b := m) (List.mem_map.mpr ⟨s, hs, rfl⟩) hm3 hm4
        have a3 := cv_mem (W := W) (F := (S l).map (fun s => s.1)) (s := k) (b := m) (List.mem_map.mpr ⟨(k, bs), by rw [e1]; simp, rfl⟩) hm1 hm2
        omega
    rcases sep with ⟨-, rfl⟩ | sep | sep
    · left; rw [e4]; exact h2
    · left; have := gs.2.2.1; have : s.1 * 1024 + W * 1024 ≤ k * 1024 := by rw [← Nat.add_mul]; exact Nat.mul_le_mul_right _ sep
      omega
    · right; have : k * 1024 + W * 1024 ≤ s.1 * 1024 := by rw [← Nat.add_mul]; exact Nat.mul_le_mul_right _ sep
      omega
  · refine ⟨e2.1, e2.2.1, by omega, fun l' hl' p hp => ?_⟩
    obtain ⟨s, hs, h1, h2, h3⟩ := PS_in hp
    have gs := (hG.1 l' hl').2 s hs
    have sep : s.1 + W ≤ k ∨ k + W ≤ s.1 := by
      apply Classical.byContradiction
      intro hc
      simp only [not_or, Nat.not_le] at hc
      obtain ⟨m, hm1, hm2, hm3, hm4⟩ : ∃ m, k ≤ m ∧ m < k + W ∧ s.1 ≤ m ∧ m < s.1 + W := ⟨max k s.1, by omega, by omega, by omega, by omega⟩
      have a0 := e2.2.2.1 m hm1 hm2
      have a1 := FFs_ge (W := W) (S := S) (b := m) (show l' < nL + 1 by omega)
      have a2 := cv_mem (W := W) (F := (S l').map (fun s => s.1)) (b := m) (List.mem_map.mpr ⟨s, hs, rfl⟩) hm3 hm4
      omega
    rcases sep with sep | sep
    · left; have := gs.2.2.1; have : s.1 * 1024 + W * 1024 ≤ k * 1024 := by rw [← Nat.add_mul]; exact Nat.mul_le_mul_right _ sep
      omega
    · right; have : k * 1024 + W * 1024 ≤ s.1 * 1024 := by rw [← Nat.add_mul]; exact Nat.mul_le_mul_right _ sep
      omega
