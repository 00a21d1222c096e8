/-! a table that is probed -/
theorem md {h i m : Nat} (hh : h < m) (hi : i < m) : (h + i) % m = if h + i < m then h + i else h + i - m := by
  split
  · rename_i g; exact Nat.mod_eq_of_lt g
  · rename_i g
    rw [Nat.mod_eq_sub_mod (by omega), Nat.mod_eq_of_lt (by omega)]
theorem md_inj {h i j m : Nat} (hh : h < m) (hi : i < m) (hj : j < m) (e : (h + i) % m = (h + j) % m) : i = j := by
  rw [md hh hi, md hh hj] at e
  split at e <;> split at e <;> omega
theorem md_lt {h i m : Nat} (hh : h < m) : (h + i) % m < m := Nat.mod_lt _ (by omega)
theorem md_sur {h j m : Nat} (hh : h < m) (hj : j < m) : ∃ i, i < m ∧ (h + i) % m = j := by
  by_cases g : h ≤ j
  · exact ⟨j - h, by omega, by rw [show h + (j - h) = j by omega]; exact Nat.mod_eq_of_lt hj⟩
  · refine ⟨j + m - h, by omega, ?_⟩
    rw [md hh (by omega), if_neg (by omega)]; omega
def Hit {κ : Type} (T : Nat → Option κ) (m : Nat) (k : κ) (h j : Nat) : Prop := ∃ i, i < m ∧ j = (h + i) % m ∧ (T j = none ∨ T j = some k) ∧ ∀ i', i' < i → T ((h + i') % m) ≠ none ∧ T ((h + i') % m) ≠ some k
theorem Hit_fun {κ : Type} {T : Nat → Option κ} {m : Nat} {k : κ} {h j j' : Nat} (a : Hit T m k h j) (b : Hit T m k h j') : j = j' := by
  obtain ⟨i, h1, h2, h3, h4⟩ := a
  obtain ⟨i', g1, g2, g3, g4⟩ := b
  rcases Nat.lt_trichotomy i i' with z | z | z
  · have := g4 i z
    rw [← h2] at this
    rcases h3 with y | y
    · exact absurd y this.1
    · exact absurd y this.2
  · rw [h2, g2, z]
  · have := h4 i' z
    rw [← g2] at this
    rcases g3 with y | y
    · exact absurd y this.1
    · exact absurd y this.2
theorem Hit_ex {κ : Type} {T : Nat → Option κ} {m : Nat} (k : κ) {h : Nat} (hh : h < m) (he : ∃ j, j < m ∧ T j = none) : ∃ j, j < m ∧ Hit T m k h j := by
  obtain ⟨j0, hj0, e0⟩ := he
  obtain ⟨i0, hi0, ei0⟩ := md_sur hh hj0
  have key : ∀ n, (∃ i, i < n ∧ i < m ∧ (T ((h + i) % m) = none ∨ T ((h + i) % m) = some k)) → ∃ j, j < m ∧ Hit T m k h j := by
    intro n
    induction n with
    | zero => rintro ⟨i, hi, _⟩; omega
    | succ n ih =>
      rintro ⟨i, hi, him, hc⟩
      by_cases z : ∃ i', i' < n ∧ i' < m ∧ (T ((h + i') % m) = none ∨ T ((h + i') % m) = some k)
      · exact ih z
      · have hin : i = n := by
          rcases Nat.lt_or_ge i n with y | y
          · exact absurd ⟨i, y, him, hc⟩ z
          · omega
        refine ⟨_, md_lt hh, i, him, rfl, hc, fun i' hi' => ⟨fun y => z ⟨i', by omega, by omega, Or.inl y⟩, fun y => z ⟨i', by omega, by omega, Or.inr y⟩⟩⟩
  exact key m ⟨i0, hi0, hi0, Or.inl (by rw [ei0]; exact e0)⟩
def HInv {κ : Type} (T : Nat → Option κ) (m : Nat) (hf : κ → Nat) : Prop := ∀ j k, j < m → T j = some k → Hit T m k (hf k) j
theorem HInv_0 {κ : Type} (m : Nat) (hf : κ → Nat) : HInv (fun _ => (none : Option κ)) m hf := fun _ _ _ h => by cases h
theorem HInv_ins {κ : Type} {T : Nat → Option κ} {m : Nat} {hf : κ → Nat} {k : κ} {j : Nat} (hm : ∀ k, hf k < m) (hI : HInv T m hf) (hj : Hit T m k (hf k) j) : HInv (m1 T j (some k)) m hf := by
  obtain ⟨i, h1, h2, h3, h4⟩ := hj
  intro j' k' hj' e
  by_cases z : j' = j
  · rw [z, m1_at] at e
    cases e
    refine ⟨i, h1, by rw [z]; exact h2, Or.inr (by rw [z, m1_at]), fun i' hi' => ?_⟩
    have hne : (hf k + i') % m ≠ j := fun y => by
      rw [h2] at y
      have := md_inj (hm k) (by omega) h1 y
      omega
    rw [m1_nat _ _ hne]; exact h4 i' hi'
  · rw [m1_nat _ _ z] at e
    obtain ⟨s, g1, g2, g3, g4⟩ := hI j' k' hj' e
    refine ⟨s, g1, g2, Or.inr (by rw [m1_nat _ _ z]; exact e), fun i' hi' => ?_⟩
    obtain ⟨a, b⟩ := g4 i' hi'
    by_cases y : (hf k' + i') % m = j
    · rw [y, m1_at]
      rw [y] at a b
      refine ⟨(fun c => by cases c), fun c => ?_⟩
      rcases h3 with w | w
      · exact a w
      · rw [w] at b; exact b c
    · rw [m1_nat _ _ y]; exact ⟨a, b⟩
def occ {κ : Type} (T : Nat → Option κ) (m : Nat) : Nat := ((List.range m).filter (fun j => (T j).isSome)).length
theorem occ_le {κ : Type} {T : Nat → Option κ} {m : Nat} (h : occ T m < m) : ∃ j, j < m ∧ T j = none := by
  apply Classical.byContradiction
  intro c
  have all : (List.range m).filter (fun j => (T j).isSome) = List.range m := by
    rw [List.filter_eq_self]
    intro j hj
    rw [List.mem_range] at hj
    cases e : T j with
    | none => exact absurd ⟨j, hj, e⟩ c
    | some x => rfl
  unfold occ at h
  rw [all, List.length_range] at h
  omega
theorem occ_s {κ : Type} (T : Nat → Option κ) (m : Nat) : occ T (m + 1) = occ T m + if (T m).isSome = true then 1 else 0 := by
  unfold occ
  rw [List.range_succ, List.filter_append, List.length_append]
  congr 1
  by_cases z : (T m).isSome = true
  · rw [if_pos z]; simp [z]
  · rw [if_neg z]; simp [z]
theorem occ_ins {κ : Type} (T : Nat → Option κ) (j : Nat) (x : Option κ) : ∀ m, occ (m1 T j x) m ≤ occ T m + 1 ∧ (m ≤ j → occ (m1 T j x) m = occ T m)
  | 0 => ⟨Nat.zero_le _, fun _ => rfl⟩
  | m + 1 => by
    obtain ⟨a, b⟩ := occ_ins T j x m
    rw [occ_s, occ_s]
    by_cases z : m = j
    · have := b (by omega)
      refine ⟨?_, fun y => by omega⟩
      split <;> split <;> omega
    · rw [m1_nat _ _ z]
      refine ⟨by omega, fun y => by rw [b (by omega)]⟩
