/-! the latest place of each key -/
abbrev KQ : Type := List (Nat × Option (List Int32))
def lp : KQ → List Int32 → Option Nat
  | [], _ => none
  | (p, x) :: Q, k => match lp Q k with
    | some r => some r
    | none => if x = some k then some p else none
theorem lp_s (p : Nat) (x : Option (List Int32)) (k : List Int32) : ∀ Q : KQ, lp (Q ++ [(p, x)]) k = if x = some k then some p else lp Q k
  | [] => by
    show (match lp [] k with | some r => some r | none => if x = some k then some p else none) = _
    rfl
  | (p', x') :: Q => by
    show (match lp (Q ++ [(p, x)]) k with | some r => some r | none => if x' = some k then some p' else none) = _
    rw [lp_s p x k Q]
    by_cases z : x = some k
    · rw [if_pos z, if_pos z]
    · rw [if_neg z, if_neg z]
      rfl
def LK (m : Nat) (hf : List Int32 → Nat) (T : Nat → Option (List Int32)) (P : Nat → Nat) (Q : KQ) : Prop := HInv T m hf ∧ (∀ j k, j < m → T j = some k → lp Q k = some (P j)) ∧ (∀ k, lp Q k ≠ none → ∃ j, j < m ∧ T j = some k) ∧ occ T m ≤ Q.length
theorem occ_0 {κ : Type} : ∀ m, occ (fun _ => (none : Option κ)) m = 0
  | 0 => rfl
  | m + 1 => by rw [occ_s, occ_0 m]; rfl
theorem LK_0 (m : Nat) (hf : List Int32 → Nat) (P : Nat → Nat) : LK m hf (fun _ => none) P [] :=
  ⟨HInv_0 m hf, (fun j k _ h => by cases h), (fun k h => absurd rfl h), by rw [occ_0]; exact Nat.zero_le _⟩
theorem LK_n {m : Nat} {hf : List Int32 → Nat} {T : Nat → Option (List Int32)} {P : Nat → Nat} {Q : KQ} (p : Nat) (h : LK m hf T P Q) : LK m hf T P (Q ++ [(p, none)]) := by
  obtain ⟨h1, h2, h3, h4⟩ := h
  have e : ∀ k, lp (Q ++ [(p, none)]) k = lp Q k := fun k => by rw [lp_s, if_neg (fun z => by cases z)]
  exact ⟨h1, fun j k hj ht => by rw [e]; exact h2 j k hj ht, fun k hk => h3 k (by rw [e] at hk; exact hk), by rw [List.length_append]; omega⟩
theorem LK_s {m : Nat} {hf : List Int32 → Nat} {T : Nat → Option (List Int32)} {P : Nat → Nat} {Q : KQ} {p j : Nat} {k : List Int32} (hm : ∀ k, hf k < m) (h : LK m hf T P Q) (hj : Hit T m k (hf k) j) : LK m hf (m1 T j (some k)) (m1 P j p) (Q ++ [(p, some k)]) := by
  obtain ⟨h1, h2, h3, h4⟩ := h
  have hjm : j < m := by
    obtain ⟨i, a, b, _⟩ := hj
    rw [b]; exact md_lt (hm k)
  have hjT : T j = none ∨ T j = some k := by
    obtain ⟨i, a, b, c, _⟩ := hj
    exact c
  refine ⟨HInv_ins hm h1 hj, fun j' k' hj' e => ?_, fun k' hk' => ?_, ?_⟩
  · by_cases z : j' = j
    · rw [z, m1_at] at e
      cases e
      rw [z, m1_at, lp_s, if_pos rfl]
    · rw [m1_nat _ _ z] at e ⊢
      have hne : ¬ (some k = some k') := fun y => by
        cases y
        exact z (Hit_fun (h1 j' k hj' e) hj)
      rw [lp_s, if_neg hne]
      exact h2 j' k' hj' e
  · rw [lp_s] at hk'
    by_cases z : some k = some k'
    · cases z
      exact ⟨j, hjm, m1_at _ _ _⟩
    · rw [if_neg z] at hk'
      obtain ⟨j', a, b⟩ := h3 k' hk'
      refine ⟨j', a, ?_⟩
      rw [m1_nat _ _ (fun y => ?_)]
      · exact b
      · rw [y] at b
        rcases hjT with w | w
        · rw [w] at b; cases b
        · rw [w] at b; exact z b
  · have := (occ_ins T j (some k) m).1
    rw [List.length_append, List.length_singleton]; omega
/-- what the search finds of a key that was noted -/
theorem LK_hit {m : Nat} {hf : List Int32 → Nat} {T : Nat → Option (List Int32)} {P : Nat → Nat} {Q : KQ} {k : List Int32} {j p : Nat} (h : LK m hf T P Q) (hj : Hit T m k (hf k) j) (hp : lp Q k = some p) : T j = some k ∧ P j = p := by
  obtain ⟨h1, h2, h3, _⟩ := h
  obtain ⟨j', a, b⟩ := h3 k (by rw [hp]; exact (fun z => by cases z))
  have e := Hit_fun (h1 j' k a b) hj
  subst e
  have := h2 j' k a b
  rw [hp] at this
  cases this
  exact ⟨b, rfl⟩
