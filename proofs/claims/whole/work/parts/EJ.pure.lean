/-! packed segments as they grow -/
def lsg (X : List (List Bt)) : List Bt := (X.getLast?).getD []
theorem lsg_s (X : List (List Bt)) (g : List Bt) : lsg (X ++ [g]) = g := by unfold lsg; rw [List.getLast?_concat]; rfl
theorem pk_pre {W : Nat} : ∀ {os : List (Option Bt)} {X0 : List (List Bt)} {g : List Bt}, ∃ r T, pkf W (X0 ++ [g]) os = X0 ++ (g ++ r) :: T
  | [], X0, g => ⟨[], [], by rw [List.append_nil]; rfl⟩
  | none :: os, X0, g => pk_pre (os := os)
  | some b :: os, X0, g => by
    show ∃ r T, pkf W (pks W (X0 ++ [g]) b) os = X0 ++ (g ++ r) :: T
    rcases pks_cases W (X0 ++ [g]) b with ⟨X1, g1, e, z, ep⟩ | ⟨z, ep⟩
    · obtain ⟨e1, e2⟩ := snoc_inj e
      subst e1 e2
      rw [ep]
      obtain ⟨r, T, h⟩ := pk_pre (W := W) (os := os) (X0 := X0) (g := g ++ [b])
      exact ⟨[b] ++ r, T, by rw [h, List.append_assoc]⟩
    · rw [ep]
      obtain ⟨r, T, h⟩ := pk_pre (W := W) (os := os) (X0 := X0 ++ [g]) (g := [b])
      exact ⟨[], ([b] ++ r) :: T, by rw [h, List.append_nil, List.append_assoc]; rfl⟩
/-- what comes next goes to the segment that the model finds -/
theorem pk_next {W n : Nat} {os : List (Option Bt)} {b : Bt} (h : os[n]? = some (some b)) (hb : 0 < b.length) :
    (∃ X0 g r T, pkf W [] (os.take n) = X0 ++ [g] ∧ pkf W [] (os.take (n + 1)) = X0 ++ [g ++ [b]] ∧ pkf W [] os = X0 ++ (g ++ [b] ++ r) :: T) ∨
    (∃ r T, pkf W [] (os.take n) = [] ∧ pkf W [] (os.take (n + 1)) = [[b]] ∧ pkf W [] os = ([b] ++ r) :: T) ∨
    (∃ X0 g r T, pkf W [] (os.take n) = X0 ++ [g] ∧ pkf W [] (os.take (n + 1)) = X0 ++ [g] ++ [[b]] ∧ pkf W [] os = X0 ++ g :: ([b] ++ r) :: T) := by
  have e1 : pkf W [] (os.take (n + 1)) = pks W (pkf W [] (os.take n)) b := by rw [pkf_s h]; rfl
  have e2 : pkf W [] os = pkf W (pkf W [] (os.take (n + 1))) (os.drop (n + 1)) := by rw [← pkf_app, List.take_append_drop]
  rcases pks_cases W (pkf W [] (os.take n)) b with ⟨X0, g, e, z, ep⟩ | ⟨z, ep⟩
  · left
    rw [ep] at e1
    rw [e1] at e2
    obtain ⟨r, T, hh⟩ := pk_pre (W := W) (os := os.drop (n + 1)) (X0 := X0) (g := g ++ [b])
    exact ⟨X0, g, r, T, e, e1, by rw [e2, hh]⟩
  · right
    rw [ep] at e1
    rcases snoc_cases (pkf W [] (os.take n)) with e | ⟨X0, g, e⟩
    · left
      rw [e] at e1
      have e1 : pkf W [] (os.take (n + 1)) = [[b]] := e1
      rw [e1] at e2
      obtain ⟨r, T, hh⟩ := pk_pre (W := W) (os := os.drop (n + 1)) (X0 := []) (g := [b])
      exact ⟨r, T, e, e1, by rw [e2]; exact hh⟩
    · right
      rw [e] at e1
      rw [e1] at e2
      obtain ⟨r, T, hh⟩ := pk_pre (W := W) (os := os.drop (n + 1)) (X0 := X0 ++ [g]) (g := [b])
      exact ⟨X0, g, r, T, e, e1, by rw [e2, hh, List.append_assoc]; rfl⟩
theorem zip_snoc {ks : List Nat} {X0 : List (List Bt)} {k : Nat} (g : List Bt) (h : ks[X0.length]? = some k) : ks.zip (X0 ++ [g]) = ks.zip X0 ++ [(k, g)] := by
  have e : ks = ks.take X0.length ++ k :: ks.drop (X0.length + 1) := by
    obtain ⟨h1, e1⟩ := List.getElem?_eq_some_iff.mp h
    rw [← e1, ← List.drop_eq_getElem_cons h1, List.take_append_drop]
  have hl : (ks.take X0.length).length = X0.length := by
    rw [List.length_take]
    have := (List.getElem?_eq_some_iff.mp h).1
    omega
  obtain ⟨a, ea⟩ : ∃ a, a = ks.take X0.length := ⟨_, rfl⟩
  obtain ⟨c, ec⟩ : ∃ c, c = ks.drop (X0.length + 1) := ⟨_, rfl⟩
  rw [← ea, ← ec] at e
  rw [← ea] at hl
  rw [e, List.zip_append hl]
  have e2 : (a ++ k :: c).zip (X0 ++ []) = a.zip X0 ++ (k :: c).zip [] := List.zip_append hl
  rw [List.append_nil] at e2
  rw [e2]
  simp
theorem SB_z1 (T : List Sg) (k : Nat) (g : List Bt) (b : Bt) : SB (T ++ [(k, g ++ [b])]) = SB (T ++ [(k, g)]) ++ [(k, b)] := by simp [SB]
theorem SB_z2 (T : List Sg) (k : Nat) (b : Bt) : SB (T ++ [(k, [b])]) = SB T ++ [(k, b)] := by simp [SB]
/-- one batch more in the segments of the model -/
theorem SB_next {W n : Nat} {os : List (Option Bt)} {b : Bt} {ks : List Nat} (hk : ks.length = (pkf W [] os).length) (h : os[n]? = some (some b)) (hb : 0 < b.length) :
    ∃ k, ks[(pkf W [] (os.take (n + 1))).length - 1]? = some k ∧ SB (ks.zip (pkf W [] (os.take (n + 1)))) = SB (ks.zip (pkf W [] (os.take n))) ++ [(k, b)] := by
  rcases pk_next (W := W) h hb with ⟨X0, g, r, T, h1, h2, h3⟩ | ⟨r, T, h1, h2, h3⟩ | ⟨X0, g, r, T, h1, h2, h3⟩
  · obtain ⟨k, hkk⟩ := lt_some (show X0.length < ks.length by rw [hk, h3, List.length_append, List.length_cons]; omega)
    rw [h1, h2]
    refine ⟨k, by rw [List.length_append, List.length_singleton, Nat.add_sub_cancel]; exact hkk, ?_⟩
    rw [zip_snoc _ hkk, zip_snoc _ hkk, SB_z1]
  · obtain ⟨k, hkk⟩ := lt_some (show 0 < ks.length by rw [hk, h3, List.length_cons]; omega)
    rw [h1, h2]
    refine ⟨k, hkk, ?_⟩
    have := zip_snoc (X0 := []) [b] hkk
    rw [List.nil_append] at this
    rw [this, SB_z2]
  · obtain ⟨k, hkk⟩ := lt_some (show (X0 ++ [g]).length < ks.length by rw [hk, h3]; simp only [List.length_append, List.length_cons, List.length_nil]; omega)
    rw [h1, h2]
    refine ⟨k, by rw [List.length_append, List.length_singleton, Nat.add_sub_cancel]; exact hkk, ?_⟩
    rw [zip_snoc _ hkk, SB_z2]
/-- where the model stands, and whether it goes to the next segment -/
theorem pk_step {W n : Nat} {os : List (Option Bt)} {b : Bt} (h : os[n]? = some (some b)) (hb : 0 < b.length) :
    ∃ g, (pkf W [] os)[(pkf W [] (os.take n)).length - 1]? = some g ∧
    ((tot (lsg (pkf W [] (os.take n))) = tot g ∧ (pkf W [] (os.take n)).length - 1 + 1 = (pkf W [] (os.take (n + 1))).length - 1 ∧ b.length = tot (lsg (pkf W [] (os.take (n + 1))))) ∨
     (¬ tot (lsg (pkf W [] (os.take n))) = tot g ∧ (pkf W [] (os.take n)).length - 1 = (pkf W [] (os.take (n + 1))).length - 1 ∧ tot (lsg (pkf W [] (os.take n))) + b.length = tot (lsg (pkf W [] (os.take (n + 1)))))) := by
  rcases pk_next (W := W) h hb with ⟨X0, g, r, T, h1, h2, h3⟩ | ⟨r, T, h1, h2, h3⟩ | ⟨X0, g, r, T, h1, h2, h3⟩
  · rw [h1, h2, h3, lsg_s, lsg_s, List.length_append, List.length_append, List.length_singleton, List.length_singleton, Nat.add_sub_cancel]
    refine ⟨g ++ [b] ++ r, by rw [List.getElem?_append_right (Nat.le_refl _), Nat.sub_self]; rfl, Or.inr ⟨?_, rfl, by rw [tot_s]⟩⟩
    rw [tot_app, tot_s]; omega
  · rw [h1, h2, h3]
    refine ⟨[b] ++ r, rfl, Or.inr ⟨?_, rfl, ?_⟩⟩
    · rw [tot_app]
      show ¬ 0 = tot [b] + tot r
      simp [tot]; omega
    · show 0 + b.length = tot (lsg ([] ++ [[b]]))
      rw [lsg_s]; simp [tot]
  · rw [h1, h2, h3, lsg_s, lsg_s]
    simp only [List.length_append, List.length_singleton, Nat.add_sub_cancel]
    refine ⟨g, by rw [List.getElem?_append_right (Nat.le_refl _), Nat.sub_self]; rfl, Or.inl ⟨rfl, trivial, by simp [tot]⟩⟩
