/-! the disk -/
def cp (f g : Nat → Int32) (a p n : Nat) : Nat → Int32 := fun j => if p ≤ j ∧ j < p + n then g (a + (j - p)) else f j
theorem cpy_cp (g f : Nat → Int32) (a p n : Nat) : va_cpy g f a p n = cp f g a p n := by
  funext j
  unfold cp
  by_cases h : p ≤ j ∧ j < p + n
  · rw [if_pos h, pk_cpy_in h.1 h.2]
  · rw [if_neg h, pk_cpy_out (by omega)]
theorem cp_0 (f g : Nat → Int32) (a p : Nat) : cp f g a p 0 = f := by
  funext j
  unfold cp
  rw [if_neg (by omega)]
theorem cp_cp (f g : Nat → Int32) (a p n m : Nat) : cp (cp f g a p n) g (a + n) (p + n) m = cp f g a p (n + m) := by
  funext j
  unfold cp
  by_cases h1 : p + n ≤ j ∧ j < p + n + m
  · rw [if_pos h1, if_pos (by omega)]
    congr 1; omega
  · rw [if_neg h1]
    by_cases h2 : p ≤ j ∧ j < p + n
    · rw [if_pos h2, if_pos (by omega)]
    · rw [if_neg h2, if_neg (by omega)]
theorem cp_out {f g : Nat → Int32} {a p n j : Nat} (h : j < p ∨ p + n ≤ j) : cp f g a p n j = f j := by
  unfold cp
  rw [if_neg (by omega)]
theorem cp_Lie {f g : Nat → Int32} {a p n : Nat} {bs : List Int32} (h : Lie g a bs) (hn : bs.length ≤ n) : Lie (cp f g a p n) p bs :=
  Lie_move h (fun j hj => by unfold cp; rw [if_pos (by omega)]; congr 1; omega)
theorem cp_keep {f g : Nat → Int32} {a p n b : Nat} {bs : List Int32} (h : Lie f b bs) (hd : b + bs.length ≤ p ∨ p + n ≤ b) : Lie (cp f g a p n) b bs :=
  Lie_move h (fun j hj => cp_out (by omega))
def tch (p n : Nat) : Nat := if n = 0 then 0 else (p + n - 1) / 1024 - p / 1024 + 1
def dk (M : Mm) (d row : Nat) (f : Nat → Int32) (w l dn : Int32) : Mm := sI (sI M row f) d (m1 (m1 (m1 (mI M d) 1 w) 2 l) 3 dn)
theorem dk_d (M : Mm) (d row : Nat) (f : Nat → Int32) (w l dn : Int32) : mI (dk M d row f w l dn) d = m1 (m1 (m1 (mI M d) 1 w) 2 l) 3 dn := by unfold dk; rw [mI_sI_self]
theorem dk_r (M : Mm) {d row : Nat} (f : Nat → Int32) (w l dn : Int32) (h : row ≠ d) : mI (dk M d row f w l dn) row = f := by unfold dk; rw [mI_sI_ne _ _ h, mI_sI_self]
theorem dk_n (M : Mm) {d row a : Nat} (f : Nat → Int32) (w l dn : Int32) (h : a ≠ d) (h2 : a ≠ row) : mI (dk M d row f w l dn) a = mI M a := by unfold dk; rw [mI_sI_ne _ _ h, mI_sI_ne _ _ h2]
theorem dk_J (M : Mm) (d row : Nat) (f : Nat → Int32) (w l dn : Int32) : mJ (dk M d row f w l dn) = mJ M := rfl
theorem dk_R (M : Mm) (d row : Nat) (f : Nat → Int32) (w l dn : Int32) : mR (dk M d row f w l dn) = mR M := rfl
theorem dk_1 (M : Mm) (d row : Nat) (f : Nat → Int32) (w l dn : Int32) : mI (dk M d row f w l dn) d 1 = w := by rw [dk_d]; simp [m1]
theorem dk_2 (M : Mm) (d row : Nat) (f : Nat → Int32) (w l dn : Int32) : mI (dk M d row f w l dn) d 2 = l := by rw [dk_d]; simp [m1]
theorem dk_3 (M : Mm) (d row : Nat) (f : Nat → Int32) (w l dn : Int32) : mI (dk M d row f w l dn) d 3 = dn := by rw [dk_d]; simp [m1]
theorem m1_3 {α : Type} (g : Nat → α) (a b c a' b' c' : α) : m1 (m1 (m1 (m1 (m1 (m1 g 1 a) 2 b) 3 c) 1 a') 2 b') 3 c' = m1 (m1 (m1 g 1 a') 2 b') 3 c' := by
  funext y
  simp only [m1]
  by_cases h3 : y = 3
  · simp [h3]
  · by_cases h2 : y = 2
    · simp [h2]
    · by_cases h1 : y = 1
      · simp [h1]
      · simp [h1, h2, h3]
theorem dk_dk (M : Mm) {d row : Nat} (f f' : Nat → Int32) (w l dn w' l' dn' : Int32) (h : row ≠ d) : dk (dk M d row f w l dn) d row f' w' l' dn' = dk M d row f' w' l' dn' := by
  unfold dk
  rw [mI_sI_self, m1_3, sI_comm _ _ _ (Ne.symm h), sI_sI, sI_sI]
theorem dk_same {M : Mm} {d row : Nat} {w l dn : Int32} (h1 : mI M d 1 = w) (h2 : mI M d 2 = l) (h3 : mI M d 3 = dn) : dk M d row (mI M row) w l dn = M := by
  unfold dk
  rw [sI_same, ← h1, ← h2, ← h3, m1_same, m1_same, m1_same, sI_same]
def Dn (p n i : Nat) : Nat := min n ((p / 1024 + i) * 1024 - p)
theorem w_write {Y : Ly} {d row src p a n : Nat} {M : Mm} {Kn : Int32 → Mm → Prop} {w : Int32} (hkd : yK Y d = 3) (hkr : yK Y row = 100) (hks : yK Y src = 100) (hne : row ≠ d) (hsd : src ≠ d) (hsr : src ≠ row) (hR : mR M d 0 = some row) (hp : p + n ≤ yN Y row) (ha : a + n ≤ yN Y src) (hb : yN Y row < 2 ^ 30) (hb2 : yN Y src < 2 ^ 30) (h1 : mI M d 1 = w) (h3 : mI M d 3 = 0)
    (hu : mI M d 2 = -1 → Kn 1 (dk M d row (cp (mI M row) (mI M src) a p n) (w + nI (tch p n)) (-1) 0))
    (hv : ∀ L, tch p n < L → L < 2 ^ 31 → mI M d 2 = nI L → Kn 1 (dk M d row (cp (mI M row) (mI M src) a p n) (w + nI (tch p n)) (nI (L - tch p n)) 0))
    (hx : ∀ L, 0 < L → L ≤ tch p n → mI M d 2 = nI L → ∀ f, (∀ j, (j < p ∨ p + n ≤ j) → f j = mI M row j) → (L = tch p n → f = cp (mI M row) (mI M src) a p n) → Kn 0 (dk M d row f (w + nI L) 0 1))
    (hl : mI M d 2 = -1 ∨ ∃ L, 0 < L ∧ L < 2 ^ 31 ∧ mI M d 2 = nI L) : f_X3_write Y d (nI p) src (nI a) (nI n) M Kn := by
  have hD0 : Dn p n 0 = 0 := by unfold Dn; omega
  have hDt : Dn p n (tch p n) = n := by unfold Dn tch; split <;> omega
  have hDlt : ∀ i, i < tch p n → Dn p n i < n := by intro i hi; unfold Dn tch at *; split at hi <;> omega
  have hDle : ∀ i, Dn p n i ≤ n := by intro i; unfold Dn; omega
  have hDs : ∀ i, Dn p n i < n → (if 1024 - (p + Dn p n i) % 1024 < n - Dn p n i then 1024 - (p + Dn p n i) % 1024 else n - Dn p n i) = Dn p n (i + 1) - Dn p n i ∧ Dn p n i ≤ Dn p n (i + 1) := by
    intro i hi; unfold Dn at *; split <;> omega
  have htn : tch p n ≤ n := by unfold tch; split <;> omega
  unfold f_X3_write
  refine LOOP2_inv (fun x1 M2 => ∃ i, i ≤ tch p n ∧ x1 = nI (Dn p n i) ∧ ∃ l dn, M2 = dk M d row (cp (mI M row) (mI M src) a p (Dn p n i)) (w + nI i) l dn ∧ ((dn = 0 ∧ ((mI M d 2 = -1 ∧ l = -1) ∨ ∃ L, i < L ∧ L < 2 ^ 31 ∧ mI M d 2 = nI L ∧ l = nI (L - i))) ∨ (dn = 1 ∧ l = 0 ∧ 0 < i ∧ mI M d 2 = nI i))) (fun x1 M2 => if mI M2 d 3 = 0 then n + 1 - x1.toNatClampNeg else 0) ?_ 0 M ⟨0, by omega, by rw [hD0]; rfl, mI M d 2, 0, ?_, Or.inl ⟨rfl, ?_⟩⟩
  rotate_left
  · rw [hD0, cp_0]
    rw [show w + nI 0 = w from Int32.add_zero w, dk_same h1 rfl h3]
  · rcases hl with h | ⟨L, hL, hL2, h⟩
    · exact Or.inl ⟨h, h⟩
    · exact Or.inr ⟨L, hL, hL2, h, by rw [h]; rfl⟩
  rintro x1 M2 again ⟨i, hi, rfl, l, dn, rfl, hW⟩ hag
  have hDi := hDle i
  unfold L_X3_write_3
  have fin : (dn = 1 ∨ n ≤ Dn p n i) → f_X3_write_110 Y d Kn (dk M d row (cp (mI M row) (mI M src) a p (Dn p n i)) (w + nI i) l dn) := by
    intro hc
    unfold f_X3_write_110 f_X3_write_122
    rw [dk_3]
    refine ⟨hkd, fun c => ⟨bz_0, ?_⟩, fun c => ⟨bz_1, ?_⟩⟩
    · rcases hW with ⟨w1, -⟩ | ⟨w1, w2, w3, w4⟩
      · exact absurd w1 c
      · subst w1 w2
        refine hx i w3 hi w4 _ ?_ ?_
        · intro j hj; exact cp_out (by omega)
        · intro e; rw [e, hDt]
    · have hn : n ≤ Dn p n i := by
        rcases hc with q | q
        · rw [q] at c; exact absurd c (by decide)
        · exact q
      have hit : i = tch p n := by
        apply Classical.byContradiction
        intro hne'
        have := hDlt i (by omega)
        omega
      rcases hW with ⟨w1, w2⟩ | ⟨w1, -⟩
      · subst w1
        rw [hit, hDt]
        rw [hit] at w2
        rcases w2 with ⟨w2, w3⟩ | ⟨L, w2, w5, w3, w4⟩
        · rw [w3]; exact hu w2
        · rw [w4]; exact hv L w2 w5 w3
      · rw [w1] at c; exact absurd c (by decide)
  rw [nI_cmp (by omega) (by omega)]
  refine ⟨fun c => fin (Or.inr c), fun c => ⟨hkd, ?_⟩⟩
  rw [dk_3]
  refine ⟨fun c2 => fin (Or.inl ?_), fun c2 => ?_⟩
  · rcases hW with ⟨w1, -⟩ | ⟨w1, -⟩
    · exact absurd w1 c2
    · exact w1
  subst c2
  rcases hW with ⟨-, hW⟩ | ⟨w1, -⟩
  rotate_left
  · exact absurd w1 (by decide)
  intro x10 e10
  have hs := hDs i (by omega)
  rw [nI_add, show (1024 : Int32) = nI 1024 from rfl, pk_rem (by omega) (by decide) (by decide), pk_sub (by omega), pk_sub hDi] at e10
  have e10' : x10 = nI (Dn p n (i + 1) - Dn p n i) := by
    rw [e10, ← hs.1]
    by_cases hc : 1024 - (p + Dn p n i) % 1024 < n - Dn p n i
    · rw [if_pos hc, if_pos ((nI_ltI (by omega) (by omega)).mpr hc)]
    · rw [if_neg hc, if_neg (fun z => hc ((nI_ltI (by omega) (by omega)).mp z))]
  clear e10
  subst e10'
  have hD1 := hDle (i + 1)
  have hi1 : i < tch p n := by
    apply Classical.byContradiction
    intro hc
    rw [show i = tch p n from by omega, hDt] at c
    omega
  refine ⟨row, by rw [dk_R]; exact hR, hks, hkr, ?_⟩
  rw [nI_add, nI_add, nI_clamp (by omega), nI_clamp (by omega), nI_clamp (by omega)]
  refine ⟨⟨nI_pos (by omega), nI_pos (by omega), nI_pos (by omega), by omega, by omega⟩, fun M15 e15 x16 e16 M17 e17 => ?_⟩
  rw [nI_add, show Dn p n i + (Dn p n (i + 1) - Dn p n i) = Dn p n (i + 1) from by omega] at e16
  subst e16
  rw [dk_n _ _ _ _ _ hsd hsr, dk_r _ _ _ _ _ hne, cpy_cp, cp_cp, show Dn p n i + (Dn p n (i + 1) - Dn p n i) = Dn p n (i + 1) from by omega] at e15
  have e15' : M15 = dk M d row (cp (mI M row) (mI M src) a p (Dn p n (i + 1))) (w + nI i) l 0 := by
    rw [e15]; unfold dk
    rw [sI_comm _ _ _ (Ne.symm hne), sI_sI]
  clear e15
  subst e15'
  have e17' : M17 = dk M d row (cp (mI M row) (mI M src) a p (Dn p n (i + 1))) (w + nI (i + 1)) l 0 := by
    rw [e17, dk_1, dk_d]; unfold dk
    rw [sI_sI]
    congr 1
    funext y
    simp only [m1]
    by_cases h : y = 1
    · simp [h, Int32.add_assoc, nI_1]
    · simp [h]
  clear e17
  subst e17'
  rw [dk_2]
  have mu : ∀ l' dn', (if mI (dk M d row (cp (mI M row) (mI M src) a p (Dn p n (i + 1))) (w + nI (i + 1)) l' dn') d 3 = 0 then n + 1 - (nI (Dn p n (i + 1))).toNatClampNeg else 0) < (if mI (dk M d row (cp (mI M row) (mI M src) a p (Dn p n i)) (w + nI i) l 0) d 3 = 0 then n + 1 - (nI (Dn p n i)).toNatClampNeg else 0) := by
    intro l' dn'
    rw [dk_3, dk_3, if_pos rfl, nI_clamp (by omega), nI_clamp (by omega)]
    have : Dn p n i < Dn p n (i + 1) := by unfold Dn at *; omega
    split <;> omega
  refine ⟨fun c3 => ?_, fun c3 M20 e20 => ?_⟩
  · unfold f_X3_write_107
    refine hag _ _ ⟨i + 1, by omega, rfl, l, 0, rfl, Or.inl ⟨rfl, Or.inl ?_⟩⟩ (mu _ _)
    rcases hW with hW | ⟨L, w1, w2, w3, w4⟩
    · exact hW
    · rw [w4] at c3
      exact absurd c3 (nI_nle (by omega) (by omega))
  · rcases hW with ⟨w1, w2⟩ | ⟨L, w1, w2, w3, w4⟩
    · rw [w2] at c3; exact absurd (by decide) c3
    rw [w4, show (1 : Int32) = nI 1 from rfl, pk_sub (by omega), dk_d] at e20
    have e20' : M20 = dk M d row (cp (mI M row) (mI M src) a p (Dn p n (i + 1))) (w + nI (i + 1)) (nI (L - (i + 1))) 0 := by
      rw [e20]; unfold dk
      rw [sI_sI]
      congr 1
      funext y
      simp only [m1]
      by_cases h : y = 2
      · simp [h]; congr 1
      · by_cases h3 : y = 3
        · simp [h3]
        · simp [h, h3]
    clear e20
    subst e20'
    rw [dk_2]
    have s104 : ∀ y21, bz y21 → ((y21 = 0 ∧ i + 1 < L) ∨ (y21 = 1 ∧ i + 1 = L)) → f_X3_write_104 Y d again (nI (Dn p n (i + 1))) (dk M d row (cp (mI M row) (mI M src) a p (Dn p n (i + 1))) (w + nI (i + 1)) (nI (L - (i + 1))) 0) y21 := by
      intro y21 hy hc
      unfold f_X3_write_104 f_X3_write_107
      refine ⟨hy, fun M23 e23 => ?_⟩
      have e23' : M23 = dk M d row (cp (mI M row) (mI M src) a p (Dn p n (i + 1))) (w + nI (i + 1)) (nI (L - (i + 1))) y21 := by
        rw [e23, dk_d]; unfold dk
        rw [sI_sI, m1_m1]
      clear e23
      subst e23'
      refine hag _ _ ⟨i + 1, by omega, rfl, _, y21, rfl, ?_⟩ (mu _ _)
      rcases hc with ⟨c1, c2⟩ | ⟨c1, c2⟩
      · exact Or.inl ⟨c1, Or.inr ⟨L, c2, w2, w3, rfl⟩⟩
      · refine Or.inr ⟨c1, ?_, by omega, by rw [w3, c2]⟩
        rw [c2, Nat.sub_self]; rfl
    rw [show (0 : Int32) = nI 0 from rfl, nI_eq (by omega) (by omega)]
    exact ⟨fun c4 => s104 _ bz_0 (Or.inl ⟨rfl, by omega⟩), fun c4 => s104 _ bz_1 (Or.inr ⟨rfl, by omega⟩)⟩
