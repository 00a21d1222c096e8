/-! what a tape without fault is -/
theorem ExR_ok {ft gt : Int64} : ∀ {n k a : Nat} {bs : List Int32} {g : Int64} {pl : Int32}, ExR ft gt n k a bs g 0 pl → g ≤ gt ∧ ∃ rs, RS bs rs ∧ rs.length = n ∧ (∀ r, r ∈ rs → okT (ft + rT r) ∧ ft + rT r ≤ gt) ∧ ∀ la, k + n ≤ la + 1 → OfS k rs la
  | 0, k, a, bs, g, pl, h => by
    rcases h with ⟨_, h, _⟩ | ⟨_, _, h, _⟩ | ⟨h1, h2, _, _⟩
    · exact absurd h (by decide)
    · exact absurd h (by decide)
    · refine ⟨by rw [h2]; exact Int64.le_refl _, [], h1, rfl, fun r hr => absurd hr (List.not_mem_nil), fun _ _ => trivial⟩
  | n + 1, k, a, bs, g, pl, h => by
    rcases h with ⟨c, ⟨c1, c2, c3⟩, h⟩ | ⟨_, h, _⟩
    · obtain ⟨hg, rs, r1, r2, r3, r4⟩ := ExR_ok h
      have hh : g ≤ gt ∧ ft + rT c ≤ gt := by
        by_cases z : ft + rT c < g
        · rw [if_pos z] at hg
          exact ⟨hg, Int64.le_trans (Int64.le_of_lt z) hg⟩
        · rw [if_neg z] at hg
          exact ⟨Int64.le_trans (Int64.not_lt.mp z) hg, hg⟩
      refine ⟨hh.1, c :: rs, ⟨c1, r1⟩, by rw [List.length_cons, r2], fun r hr => ?_, fun la hla => ⟨k, c2, Nat.le_refl _, by omega, r4 la (by omega)⟩⟩
      rcases List.mem_cons.mp hr with rfl | hr
      · exact ⟨c3, hh.2⟩
      · exact r3 r hr
    · exact absurd h (by decide)
theorem wfF_all : ∀ {xs : List (Bool × Int32)}, (∀ x, x ∈ xs → x.2 ≠ -1) → wfF xs = -1 → ∀ x, x ∈ xs → x.1 = true
  | [], _, _, x, hx => absurd hx (List.not_mem_nil)
  | (c, p) :: xs, h, e, x, hx => by
    unfold wfF at e
    by_cases z : c = true
    · rw [if_pos z] at e
      rcases List.mem_cons.mp hx with rfl | hx
      · exact z
      · exact wfF_all (fun y hy => h y (List.mem_cons_of_mem _ hy)) e x hx
    · rw [if_neg z] at e
      exact absurd e (h (c, p) (List.mem_cons_self ..))
theorem lN_of {v : Int64} (h : 0 ≤ v) : ∃ n, n < 2 ^ 63 ∧ v = lN n := by
  have a := (Int64.le_iff_toInt_le).mp h
  rw [show (0 : Int64).toInt = 0 by decide] at a
  have b := Int64.toInt_lt v
  refine ⟨v.toInt.toNat, by omega, ?_⟩
  rw [← Int64.toInt_inj]
  have : (lN v.toInt.toNat).toInt = (v.toInt.toNat : Int) := by
    unfold lN
    exact Int64.toInt_ofNat_of_lt (by omega)
  omega
theorem Exm_ok {tp : Bt} {pl : Int32} (hI : TpI tp) (h : Exm tp 0 pl) : ∃ c, BatO tp c := by
  rcases h with ⟨_, h, _⟩ | ⟨h61, hsz, h⟩
  · exact absurd h (by decide)
  rcases h with ⟨_, h, _⟩ | ⟨hwf, h⟩
  · exact absurd h (by decide)
  rcases h with ⟨_, h, _⟩ | ⟨hT, n, hn, hcnt, hEx⟩
  · exact absurd h (by decide)
  have all := wfF_all (xs := hdC tp) (by unfold hdC; intro x hx; simp only [List.mem_cons, List.not_mem_nil, or_false] at hx; rcases hx with rfl | rfl | rfl | rfl | rfl | rfl | rfl | rfl | rfl | rfl | rfl <;> (dsimp only; decide)) hwf
  unfold hdC at all
  simp only [List.mem_cons, List.not_mem_nil, or_false, forall_eq_or_imp, forall_eq, decide_eq_true_eq] at all
  obtain ⟨q0, q12, q16, q21, q23, q27, q35, q43, q51, q53, q57⟩ := all
  obtain ⟨c, hc, ec⟩ := lN_of (Int64.le_trans (by decide) q57.1)
  have c1 : 1 ≤ c := by
    have := q57.1
    rw [ec, show (1 : Int64) = lN 1 from rfl, pk_lLE (by omega) (by omega)] at this
    exact this
  have c2 : c ≤ 1000 := by
    have := q57.2
    rw [ec, show (1000 : Int64) = lN 1000 from rfl, pk_lLE (by omega) (by omega)] at this
    exact this
  have hcn : cntB tp = nI c := by
    unfold cntB b_countOf
    rw [Nat.zero_add, ec, lN_i]
  have hnc : n = c := by
    rw [hcn] at hcnt
    exact ((nI_eq (by omega) (by omega)).mp hcnt).symm
  subst hnc
  obtain ⟨_, rs, r1, r2, r3, r4⟩ := ExR_ok hEx
  refine ⟨n, h61, hI.1, hI.2, hsz, hT, ?_, c1, c2, ?_, hcn, rs, r1, by rw [hcn, r2], by omega, r3, r4 (n - 1) (by omega)⟩
  · by_cases z : prB tp = -1
    · exact Or.inl z
    · right
      constructor
      · have a := (Int64.le_iff_toInt_le).mp q43.1
        rw [Int64.le_iff_toInt_le]
        have b : ¬ (prB tp).toInt = (-1 : Int64).toInt := fun e => z (Int64.toInt_inj.mp e)
        rw [show (-1 : Int64).toInt = -1 by decide] at a b
        rw [show (0 : Int64).toInt = 0 by decide]
        omega
      · unfold okN at q53
        rw [if_neg z, decide_eq_true_eq] at q53
        have : ¬ sqB tp < 0 := by
          intro c
          apply q53
          rw [← beS4_ext]
          have e : (sqB tp).toInt64 < (0 : Int32).toInt64 := by
            rw [Int64.lt_iff_toInt_lt, Int32.toInt_toInt64, Int32.toInt_toInt64]
            exact (Int32.lt_iff_toInt_lt).mp c
          exact e
        obtain ⟨s, hs, e⟩ := nI_of this
        exact ⟨s, hs, e⟩
  · unfold laB
    rw [q23, ec, show (1 : Int64) = lN 1 from rfl, lN_sub c1, lN_i]
theorem ExR_kd {ft gt : Int64} : ∀ {n k a : Nat} {bs : List Int32} {g : Int64} {kd pl : Int32}, ExR ft gt n k a bs g kd pl → kd = 0 ∨ kd = 4 ∨ kd = 5
  | 0, k, a, bs, g, kd, pl, h => by
    rcases h with ⟨_, h, _⟩ | ⟨_, _, h, _⟩ | ⟨h1, h2, h, _⟩
    · exact Or.inr (Or.inl h)
    · exact Or.inr (Or.inr h)
    · exact Or.inl h
  | n + 1, k, a, bs, g, kd, pl, h => by
    rcases h with ⟨c, _, h⟩ | ⟨_, h, _⟩
    · exact ExR_kd h
    · exact Or.inr (Or.inl h)
theorem Exm_kd {tp : Bt} {kd pl : Int32} (h : Exm tp kd pl) : kd ≤ 0 ↔ kd = 0 := by
  have : kd = 0 ∨ kd = 1 ∨ kd = 2 ∨ kd = 3 ∨ kd = 4 ∨ kd = 5 := by
    rcases h with ⟨_, h, _⟩ | ⟨h61, hsz, h⟩
    · exact Or.inr (Or.inl h)
    rcases h with ⟨_, h, _⟩ | ⟨hwf, h⟩
    · exact Or.inr (Or.inr (Or.inl h))
    rcases h with ⟨_, h, _⟩ | ⟨hT, n, hn, hcnt, hEx⟩
    · exact Or.inr (Or.inr (Or.inr (Or.inl h)))
    · rcases ExR_kd hEx with h | h | h
      · exact Or.inl h
      · exact Or.inr (Or.inr (Or.inr (Or.inr (Or.inl h))))
      · exact Or.inr (Or.inr (Or.inr (Or.inr (Or.inr h))))
  rcases this with rfl | rfl | rfl | rfl | rfl | rfl <;> decide
