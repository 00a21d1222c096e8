/-! THE MEMORY. The layout Y: of an address its kind (0: none of ours; 2 .. 12 an object of vwCl's class; 100 byte[], 101 int[], 102 long[], 103 boolean[], 104 LogTable[]) and its length; the memory M: its ints, longs, references by place -/
abbrev Ly : Type := (Nat → Nat) × (Nat → Nat)
abbrev Mm : Type := (Nat → Nat → Int32) × (Nat → Nat → Int64) × (Nat → Nat → Option Nat)
def yK (Y : Ly) : Nat → Nat := Y.1
def yN (Y : Ly) : Nat → Nat := Y.2
def mI (M : Mm) : Nat → Nat → Int32 := M.1
def mJ (M : Mm) : Nat → Nat → Int64 := M.2.1
def mR (M : Mm) : Nat → Nat → Option Nat := M.2.2
def m1 {α : Type} (f : Nat → α) (j : Nat) (v : α) : Nat → α := fun y => if y = j then v else f y
def sI (M : Mm) (a : Nat) (f : Nat → Int32) : Mm := (m1 M.1 a f, M.2.1, M.2.2)
def sJ (M : Mm) (a : Nat) (f : Nat → Int64) : Mm := (M.1, m1 M.2.1 a f, M.2.2)
def sR (M : Mm) (a : Nat) (f : Nat → Option Nat) : Mm := (M.1, M.2.1, m1 M.2.2 a f)
def fty (k : Nat) : List Nat := match k with
  | 2 => [2, 2, 2, 2, 2, 0, 2, 0, 0, 0, 2, 2, 2]
  | 3 => [2, 0, 0, 0]
  | 4 => [2, 0, 0, 0]
  | 5 => [0, 0, 2]
  | 6 => [2, 0, 0, 2, 0, 2]
  | 7 => [0, 2, 2, 2, 2, 2, 2, 2, 2]
  | 8 => [0, 1, 1, 0, 2, 2, 2, 0, 2]
  | 9 => [2, 2, 0, 0, 2, 2, 2]
  | 10 => [1, 1, 0, 0, 0, 0, 0, 0]
  | 11 => [0, 2, 0, 2, 2, 2, 2, 2, 1, 1, 2, 2, 2]
  | 12 => [0, 0, 0, 0, 0, 0, 0, 0, 1, 1, 2, 0, 0, 2, 2, 2, 2, 2, 0, 2, 2, 2, 2, 2, 2, 0, 2, 2, 2, 2, 2, 2, 2, 0, 2, 2, 2, 2, 2, 2, 2, 0, 0, 0, 0, 0, 0, 1, 1, 0, 1, 0, 1, 0, 2, 2, 2, 2, 2, 2, 2, 2, 2, 2, 0, 2, 2, 2]
  | _ => []
def vv (M : Mm) (t a j : Nat) : Value := if t = 0 then .int (mI M a j) else if t = 1 then .long (mJ M a j) else va_rf (mR M a j)
def objF (M : Mm) (k a : Nat) : List Value := (fty k).mapIdx (fun j t => vv M t a j)
abbrev Cy : Type := ClassId × ClassId × ClassId × ClassId × ClassId
def FF (cy : Cy) (Y : Ly) (M : Mm) (a : Nat) : va_E :=
  if yK Y a = 100 then .inl (cy.1, yN Y a, .inl (mI M a))
  else if yK Y a = 101 then .inl (cy.2.1, yN Y a, .inl (mI M a))
  else if yK Y a = 102 then .inl (cy.2.2.1, yN Y a, .inr (.inl (mJ M a)))
  else if yK Y a = 103 then .inl (cy.2.2.2.1, yN Y a, .inl (mI M a))
  else if yK Y a = 104 then .inl (cy.2.2.2.2, yN Y a, .inr (.inr (.inr (.inr (mR M a)))))
  else .inr (yK Y a, objF M (yK Y a) a)
abbrev tysC (cy : Cy) : List (ClassId × FieldType) := [(cy.1, .byte), (cy.2.1, .int), (cy.2.2.1, .long), (cy.2.2.2.1, .boolean), (cy.2.2.2.2, .object RX8)]
def Wd (D : va_G) (cy : Cy) (A : Nat → Prop) (Y : Ly) (M : Mm) (H : Heap) : Prop :=
  (∀ a j, yK Y a = 100 → fits .byte (.int (mI M a j)) = true) ∧ ∃ L : List Nat, (∀ a, a ∈ L ↔ yK Y a ≠ 0) ∧ va_P D vwCl (va_pl L (FF cy Y M)) H ∧ va_D A (va_pl L (FF cy Y M))
def Am (Y : Ly) (sz : Nat) : Nat → Prop := fun q => yK Y q ≠ 0 ∨ sz ≤ q
theorem mI_sJ (M : Mm) (a : Nat) (f : Nat → Int64) : mI (sJ M a f) = mI M := rfl
theorem mI_sR (M : Mm) (a : Nat) (f : Nat → Option Nat) : mI (sR M a f) = mI M := rfl
theorem mJ_sI (M : Mm) (a : Nat) (f : Nat → Int32) : mJ (sI M a f) = mJ M := rfl
theorem mJ_sR (M : Mm) (a : Nat) (f : Nat → Option Nat) : mJ (sR M a f) = mJ M := rfl
theorem mR_sI (M : Mm) (a : Nat) (f : Nat → Int32) : mR (sI M a f) = mR M := rfl
theorem mR_sJ (M : Mm) (a : Nat) (f : Nat → Int64) : mR (sJ M a f) = mR M := rfl
theorem m1_self {α : Type} (f : Nat → α) (j : Nat) (v : α) : m1 f j v j = v := by simp [m1]
theorem m1_ne {α : Type} (f : Nat → α) {j i : Nat} (v : α) (h : i ≠ j) : m1 f j v i = f i := by simp [m1, h]
theorem mI_sI (M : Mm) (a : Nat) (f : Nat → Int32) : mI (sI M a f) = m1 (mI M) a f := rfl
theorem mJ_sJ (M : Mm) (a : Nat) (f : Nat → Int64) : mJ (sJ M a f) = m1 (mJ M) a f := rfl
theorem mR_sR (M : Mm) (a : Nat) (f : Nat → Option Nat) : mR (sR M a f) = m1 (mR M) a f := rfl
theorem mI_sI_self (M : Mm) (a : Nat) (f : Nat → Int32) : mI (sI M a f) a = f := m1_self _ _ _
theorem mI_sI_ne (M : Mm) {a b : Nat} (f : Nat → Int32) (h : b ≠ a) : mI (sI M a f) b = mI M b := m1_ne _ _ h
theorem mJ_sJ_self (M : Mm) (a : Nat) (f : Nat → Int64) : mJ (sJ M a f) a = f := m1_self _ _ _
theorem mJ_sJ_ne (M : Mm) {a b : Nat} (f : Nat → Int64) (h : b ≠ a) : mJ (sJ M a f) b = mJ M b := m1_ne _ _ h
theorem mR_sR_self (M : Mm) (a : Nat) (f : Nat → Option Nat) : mR (sR M a f) a = f := m1_self _ _ _
theorem mR_sR_ne (M : Mm) {a b : Nat} (f : Nat → Option Nat) (h : b ≠ a) : mR (sR M a f) b = mR M b := m1_ne _ _ h
/-! what stands at an address -/
theorem FF_o {cy : Cy} {Y : Ly} {M : Mm} {a k : Nat} (h : yK Y a = k) (hk : k < 100) : FF cy Y M a = .inr (k, objF M k a) := by
  subst h
  unfold FF
  rw [if_neg (by omega), if_neg (by omega), if_neg (by omega), if_neg (by omega), if_neg (by omega)]
theorem FF_b {cy : Cy} {Y : Ly} {M : Mm} {a : Nat} (h : yK Y a = 100) : FF cy Y M a = .inl (cy.1, yN Y a, .inl (mI M a)) := by simp [FF, h]
theorem FF_i {cy : Cy} {Y : Ly} {M : Mm} {a : Nat} (h : yK Y a = 101) : FF cy Y M a = .inl (cy.2.1, yN Y a, .inl (mI M a)) := by simp [FF, h]
theorem FF_l {cy : Cy} {Y : Ly} {M : Mm} {a : Nat} (h : yK Y a = 102) : FF cy Y M a = .inl (cy.2.2.1, yN Y a, .inr (.inl (mJ M a))) := by simp [FF, h]
theorem FF_z {cy : Cy} {Y : Ly} {M : Mm} {a : Nat} (h : yK Y a = 103) : FF cy Y M a = .inl (cy.2.2.2.1, yN Y a, .inl (mI M a)) := by simp [FF, h]
theorem FF_r {cy : Cy} {Y : Ly} {M : Mm} {a : Nat} (h : yK Y a = 104) : FF cy Y M a = .inl (cy.2.2.2.2, yN Y a, .inr (.inr (.inr (.inr (mR M a))))) := by simp [FF, h]
theorem objF_at {M : Mm} {k a j t : Nat} (h : (fty k)[j]? = some t) : (objF M k a)[j]? = some (vv M t a j) := by
  simp [objF, List.getElem?_mapIdx, h]
theorem objF_len {M : Mm} {k a : Nat} : (objF M k a).length = (fty k).length := by simp [objF]
theorem objF_of {M M' : Mm} {k a : Nat} (h : ∀ j t, (fty k)[j]? = some t → vv M' t a j = vv M t a j) : objF M' k a = objF M k a := by
  apply List.ext_getElem?
  intro i
  simp only [objF, List.getElem?_mapIdx]
  cases hi : (fty k)[i]? with
  | none => rfl
  | some t => simp [h i t hi]
theorem objF_set {M M' : Mm} {k a j t : Nat} {v : Value} (hj : (fty k)[j]? = some t) (hv : vv M' t a j = v) (h : ∀ i t, i ≠ j → (fty k)[i]? = some t → vv M' t a i = vv M t a i) : (objF M k a).set j v = objF M' k a := by
  apply List.ext_getElem?
  intro i
  have hl : j < (objF M k a).length := by rw [objF_len]; exact (List.getElem?_eq_some_iff.mp hj).1
  by_cases hij : i = j
  · subst hij
    rw [List.getElem?_set_self hl, objF_at hj, hv]
  · rw [List.getElem?_set_ne (Ne.symm hij)]
    simp only [objF, List.getElem?_mapIdx]
    cases hi : (fty k)[i]? with
    | none => rfl
    | some t => simp [h i t hij hi]
theorem FF_of {cy : Cy} {Y : Ly} {M M' : Mm} {b : Nat} (h2 : mI M' b = mI M b) (h3 : mJ M' b = mJ M b) (h4 : mR M' b = mR M b) : FF cy Y M' b = FF cy Y M b := by
  have h5 : ∀ t j, vv M' t b j = vv M t b j := fun t j => by simp only [vv, h2, h3, h4]
  have h6 : objF M' (yK Y b) b = objF M (yK Y b) b := objF_of (fun j t _ => h5 t j)
  simp only [FF, h2, h3, h4, h6]
/-- the world with one cell changed -/
theorem Wd_upd {D : va_G} {cy : Cy} {A : Nat → Prop} {Y : Ly} {M M' : Mm} {L : List Nat} {H1 : Heap} {a k : Nat} {e : va_E} (hL : ∀ b, b ∈ L ↔ yK Y b ≠ 0) (hD : va_D A (va_pl L (FF cy Y M))) (ha : a ∈ L) (hk : (va_pl L (FF cy Y M))[k]? = some (a, FF cy Y M a))
    (hb : ∀ b j, yK Y b = 100 → fits .byte (.int (mI M' b j)) = true) (he : FF cy Y M' a = e) (ho : ∀ b, b ≠ a → FF cy Y M' b = FF cy Y M b)
    (hP1 : va_P D vwCl ((va_pl L (FF cy Y M)).set k (a, e)) H1) (hD1 : va_D A ((va_pl L (FF cy Y M)).set k (a, e))) : Wd D cy A Y M' H1 := by
  have h1 := va_pl_set (X := []) (e := e) hD ha hk
  simp only [List.nil_append] at h1
  have h2 : va_pl L (va_up (FF cy Y M) a e) = va_pl L (FF cy Y M') := va_pl_congr (fun b => by
    by_cases hb : b = a
    · subst hb; rw [va_up_self]; exact he.symm
    · rw [va_up_ne _ _ hb]; exact (ho b hb).symm)
  rw [h1, h2] at hP1 hD1
  exact ⟨hb, L, hL, hP1, hD1⟩
theorem Wd_get {D : va_G} {cy : Cy} {A : Nat → Prop} {Y : Ly} {M : Mm} {H : Heap} (h : Wd D cy A Y M H) {a : Nat} (ha : yK Y a ≠ 0) : ∃ (L : List Nat) (k : Nat), (∀ b, b ∈ L ↔ yK Y b ≠ 0) ∧ va_P D vwCl (va_pl L (FF cy Y M)) H ∧ va_D A (va_pl L (FF cy Y M)) ∧ a ∈ L ∧ (va_pl L (FF cy Y M))[k]? = some (a, FF cy Y M a) := by
  obtain ⟨-, L, hL, hP, hD⟩ := h
  obtain ⟨k, hk⟩ := va_pl_get (X := []) (f := FF cy Y M) ((hL a).2 ha)
  exact ⟨L, k, hL, hP, hD, (hL a).2 ha, by simpa using hk⟩
theorem Wd_in {D : va_G} {cy : Cy} {A : Nat → Prop} {Y : Ly} {M : Mm} {H : Heap} (h : Wd D cy A Y M H) {a : Nat} (ha : yK Y a ≠ 0) : A a := by
  obtain ⟨L, k, -, -, hD, -, hk⟩ := Wd_get h ha
  exact hD.2 k _ hk
theorem Wd_self {D : va_G} {cy : Cy} {A : Nat → Prop} {Y : Ly} {M : Mm} {H : Heap} {sz : Nat} (h : Wd D cy A Y M H) : Wd D cy (Am Y sz) Y M H := by
  obtain ⟨h0, L, hL, hP, hD⟩ := h
  refine ⟨h0, L, hL, hP, hD.1, fun k q hq => ?_⟩
  have h1 : q ∈ va_pl L (FF cy Y M) := List.mem_of_getElem? hq
  obtain ⟨a, ha, rfl⟩ := List.mem_map.mp h1
  exact Or.inl ((hL a).1 ha)
theorem Wd_true {D : va_G} {cy : Cy} {A B : Nat → Prop} {Y : Ly} {M : Mm} {H : Heap} (h : Wd D cy A Y M H) (hAB : ∀ q, A q → B q) : Wd D cy B Y M H := by
  obtain ⟨h0, L, hL, hP, hD⟩ := h
  exact ⟨h0, L, hL, hP, hD.weaken (fun _ _ _ h => hAB _ h)⟩
theorem Wd_fit {D : va_G} {cy : Cy} {A : Nat → Prop} {Y : Ly} {M : Mm} {H : Heap} (h : Wd D cy A Y M H) {a : Nat} (j : Nat) (ha : yK Y a = 100) : fits .byte (.int (mI M a j)) = true := h.1 a j ha
/-! loops of the functions that stand for the methods -/
def LOOP1 {T1 : Type} (step : T1 → (T1 → Prop) → Prop) : Nat → T1 → Prop
  | 0 => fun _ => False
  | n + 1 => fun a1 => step a1 (LOOP1 step n)
theorem LOOP1_s {T1 : Type} {step : T1 → (T1 → Prop) → Prop} {n : Nat} {a1 : T1} (h : LOOP1 step (n + 1) a1) : step a1 (LOOP1 step n) := h
theorem LOOP1_inv {T1 : Type} {step : T1 → (T1 → Prop) → Prop} (I : T1 → Prop) (μ : T1 → Nat) (h : ∀ (a1 : T1) (again : T1 → Prop), I a1 → (∀ (b1 : T1), I b1 → μ b1 < μ a1 → again b1) → step a1 again) (a1 : T1) (hs : I a1) : ∃ n, LOOP1 step n a1 := by
  suffices h2 : ∀ (n : Nat) (a1 : T1), I a1 → μ a1 < n → LOOP1 step n a1 from ⟨_, h2 _ a1 hs (Nat.lt_succ_self _)⟩
  intro n
  induction n with
  | zero => intro a1 _ h; exact absurd h (Nat.not_lt_zero _)
  | succ n ih => intro a1 hI hm; exact h a1 (LOOP1 step n) hI (fun b1 h1 h2 => ih b1 h1 (by omega))
def LOOP2 {T1 T2 : Type} (step : T1 → T2 → (T1 → T2 → Prop) → Prop) : Nat → T1 → T2 → Prop
  | 0 => fun _ _ => False
  | n + 1 => fun a1 a2 => step a1 a2 (LOOP2 step n)
theorem LOOP2_s {T1 T2 : Type} {step : T1 → T2 → (T1 → T2 → Prop) → Prop} {n : Nat} {a1 : T1} {a2 : T2} (h : LOOP2 step (n + 1) a1 a2) : step a1 a2 (LOOP2 step n) := h
theorem LOOP2_inv {T1 T2 : Type} {step : T1 → T2 → (T1 → T2 → Prop) → Prop} (I : T1 → T2 → Prop) (μ : T1 → T2 → Nat) (h : ∀ (a1 : T1) (a2 : T2) (again : T1 → T2 → Prop), I a1 a2 → (∀ (b1 : T1) (b2 : T2), I b1 b2 → μ b1 b2 < μ a1 a2 → again b1 b2) → step a1 a2 again) (a1 : T1) (a2 : T2) (hs : I a1 a2) : ∃ n, LOOP2 step n a1 a2 := by
  suffices h2 : ∀ (n : Nat) (a1 : T1) (a2 : T2), I a1 a2 → μ a1 a2 < n → LOOP2 step n a1 a2 from ⟨_, h2 _ a1 a2 hs (Nat.lt_succ_self _)⟩
  intro n
  induction n with
  | zero => intro a1 a2 _ h; exact absurd h (Nat.not_lt_zero _)
  | succ n ih => intro a1 a2 hI hm; exact h a1 a2 (LOOP2 step n) hI (fun b1 b2 h1 h2 => ih b1 b2 h1 (by omega))
def LOOP3 {T1 T2 T3 : Type} (step : T1 → T2 → T3 → (T1 → T2 → T3 → Prop) → Prop) : Nat → T1 → T2 → T3 → Prop
  | 0 => fun _ _ _ => False
  | n + 1 => fun a1 a2 a3 => step a1 a2 a3 (LOOP3 step n)
theorem LOOP3_s {T1 T2 T3 : Type} {step : T1 → T2 → T3 → (T1 → T2 → T3 → Prop) → Prop} {n : Nat} {a1 : T1} {a2 : T2} {a3 : T3} (h : LOOP3 step (n + 1) a1 a2 a3) : step a1 a2 a3 (LOOP3 step n) := h
theorem LOOP3_inv {T1 T2 T3 : Type} {step : T1 → T2 → T3 → (T1 → T2 → T3 → Prop) → Prop} (I : T1 → T2 → T3 → Prop) (μ : T1 → T2 → T3 → Nat) (h : ∀ (a1 : T1) (a2 : T2) (a3 : T3) (again : T1 → T2 → T3 → Prop), I a1 a2 a3 → (∀ (b1 : T1) (b2 : T2) (b3 : T3), I b1 b2 b3 → μ b1 b2 b3 < μ a1 a2 a3 → again b1 b2 b3) → step a1 a2 a3 again) (a1 : T1) (a2 : T2) (a3 : T3) (hs : I a1 a2 a3) : ∃ n, LOOP3 step n a1 a2 a3 := by
  suffices h2 : ∀ (n : Nat) (a1 : T1) (a2 : T2) (a3 : T3), I a1 a2 a3 → μ a1 a2 a3 < n → LOOP3 step n a1 a2 a3 from ⟨_, h2 _ a1 a2 a3 hs (Nat.lt_succ_self _)⟩
  intro n
  induction n with
  | zero => intro a1 a2 a3 _ h; exact absurd h (Nat.not_lt_zero _)
  | succ n ih => intro a1 a2 a3 hI hm; exact h a1 a2 a3 (LOOP3 step n) hI (fun b1 b2 b3 h1 h2 => ih b1 b2 b3 h1 (by omega))
def LOOP4 {T1 T2 T3 T4 : Type} (step : T1 → T2 → T3 → T4 → (T1 → T2 → T3 → T4 → Prop) → Prop) : Nat → T1 → T2 → T3 → T4 → Prop
  | 0 => fun _ _ _ _ => False
  | n + 1 => fun a1 a2 a3 a4 => step a1 a2 a3 a4 (LOOP4 step n)
theorem LOOP4_s {T1 T2 T3 T4 : Type} {step : T1 → T2 → T3 → T4 → (T1 → T2 → T3 → T4 → Prop) → Prop} {n : Nat} {a1 : T1} {a2 : T2} {a3 : T3} {a4 : T4} (h : LOOP4 step (n + 1) a1 a2 a3 a4) : step a1 a2 a3 a4 (LOOP4 step n) := h
theorem LOOP4_inv {T1 T2 T3 T4 : Type} {step : T1 → T2 → T3 → T4 → (T1 → T2 → T3 → T4 → Prop) → Prop} (I : T1 → T2 → T3 → T4 → Prop) (μ : T1 → T2 → T3 → T4 → Nat) (h : ∀ (a1 : T1) (a2 : T2) (a3 : T3) (a4 : T4) (again : T1 → T2 → T3 → T4 → Prop), I a1 a2 a3 a4 → (∀ (b1 : T1) (b2 : T2) (b3 : T3) (b4 : T4), I b1 b2 b3 b4 → μ b1 b2 b3 b4 < μ a1 a2 a3 a4 → again b1 b2 b3 b4) → step a1 a2 a3 a4 again) (a1 : T1) (a2 : T2) (a3 : T3) (a4 : T4) (hs : I a1 a2 a3 a4) : ∃ n, LOOP4 step n a1 a2 a3 a4 := by
  suffices h2 : ∀ (n : Nat) (a1 : T1) (a2 : T2) (a3 : T3) (a4 : T4), I a1 a2 a3 a4 → μ a1 a2 a3 a4 < n → LOOP4 step n a1 a2 a3 a4 from ⟨_, h2 _ a1 a2 a3 a4 hs (Nat.lt_succ_self _)⟩
  intro n
  induction n with
  | zero => intro a1 a2 a3 a4 _ h; exact absurd h (Nat.not_lt_zero _)
  | succ n ih => intro a1 a2 a3 a4 hI hm; exact h a1 a2 a3 a4 (LOOP4 step n) hI (fun b1 b2 b3 b4 h1 h2 => ih b1 b2 b3 b4 h1 (by omega))
def LOOP5 {T1 T2 T3 T4 T5 : Type} (step : T1 → T2 → T3 → T4 → T5 → (T1 → T2 → T3 → T4 → T5 → Prop) → Prop) : Nat → T1 → T2 → T3 → T4 → T5 → Prop
  | 0 => fun _ _ _ _ _ => False
  | n + 1 => fun a1 a2 a3 a4 a5 => step a1 a2 a3 a4 a5 (LOOP5 step n)
theorem LOOP5_s {T1 T2 T3 T4 T5 : Type} {step : T1 → T2 → T3 → T4 → T5 → (T1 → T2 → T3 → T4 → T5 → Prop) → Prop} {n : Nat} {a1 : T1} {a2 : T2} {a3 : T3} {a4 : T4} {a5 : T5} (h : LOOP5 step (n + 1) a1 a2 a3 a4 a5) : step a1 a2 a3 a4 a5 (LOOP5 step n) := h
theorem LOOP5_inv {T1 T2 T3 T4 T5 : Type} {step : T1 → T2 → T3 → T4 → T5 → (T1 → T2 → T3 → T4 → T5 → Prop) → Prop} (I : T1 → T2 → T3 → T4 → T5 → Prop) (μ : T1 → T2 → T3 → T4 → T5 → Nat) (h : ∀ (a1 : T1) (a2 : T2) (a3 : T3) (a4 : T4) (a5 : T5) (again : T1 → T2 → T3 → T4 → T5 → Prop), I a1 a2 a3 a4 a5 → (∀ (b1 : T1) (b2 : T2) (b3 : T3) (b4 : T4) (b5 : T5), I b1 b2 b3 b4 b5 → μ b1 b2 b3 b4 b5 < μ a1 a2 a3 a4 a5 → again b1 b2 b3 b4 b5) → step a1 a2 a3 a4 a5 again) (a1 : T1) (a2 : T2) (a3 : T3) (a4 : T4) (a5 : T5) (hs : I a1 a2 a3 a4 a5) : ∃ n, LOOP5 step n a1 a2 a3 a4 a5 := by
  suffices h2 : ∀ (n : Nat) (a1 : T1) (a2 : T2) (a3 : T3) (a4 : T4) (a5 : T5), I a1 a2 a3 a4 a5 → μ a1 a2 a3 a4 a5 < n → LOOP5 step n a1 a2 a3 a4 a5 from ⟨_, h2 _ a1 a2 a3 a4 a5 hs (Nat.lt_succ_self _)⟩
  intro n
  induction n with
  | zero => intro a1 a2 a3 a4 a5 _ h; exact absurd h (Nat.not_lt_zero _)
  | succ n ih => intro a1 a2 a3 a4 a5 hI hm; exact h a1 a2 a3 a4 a5 (LOOP5 step n) hI (fun b1 b2 b3 b4 b5 h1 h2 => ih b1 b2 b3 b4 b5 h1 (by omega))
def LOOP6 {T1 T2 T3 T4 T5 T6 : Type} (step : T1 → T2 → T3 → T4 → T5 → T6 → (T1 → T2 → T3 → T4 → T5 → T6 → Prop) → Prop) : Nat → T1 → T2 → T3 → T4 → T5 → T6 → Prop
  | 0 => fun _ _ _ _ _ _ => False
  | n + 1 => fun a1 a2 a3 a4 a5 a6 => step a1 a2 a3 a4 a5 a6 (LOOP6 step n)
theorem LOOP6_s {T1 T2 T3 T4 T5 T6 : Type} {step : T1 → T2 → T3 → T4 → T5 → T6 → (T1 → T2 → T3 → T4 → T5 → T6 → Prop) → Prop} {n : Nat} {a1 : T1} {a2 : T2} {a3 : T3} {a4 : T4} {a5 : T5} {a6 : T6} (h : LOOP6 step (n + 1) a1 a2 a3 a4 a5 a6) : step a1 a2 a3 a4 a5 a6 (LOOP6 step n) := h
theorem LOOP6_inv {T1 T2 T3 T4 T5 T6 : Type} {step : T1 → T2 → T3 → T4 → T5 → T6 → (T1 → T2 → T3 → T4 → T5 → T6 → Prop) → Prop} (I : T1 → T2 → T3 → T4 → T5 → T6 → Prop) (μ : T1 → T2 → T3 → T4 → T5 → T6 → Nat) (h : ∀ (a1 : T1) (a2 : T2) (a3 : T3) (a4 : T4) (a5 : T5) (a6 : T6) (again : T1 → T2 → T3 → T4 → T5 → T6 → Prop), I a1 a2 a3 a4 a5 a6 → (∀ (b1 : T1) (b2 : T2) (b3 : T3) (b4 : T4) (b5 : T5) (b6 : T6), I b1 b2 b3 b4 b5 b6 → μ b1 b2 b3 b4 b5 b6 < μ a1 a2 a3 a4 a5 a6 → again b1 b2 b3 b4 b5 b6) → step a1 a2 a3 a4 a5 a6 again) (a1 : T1) (a2 : T2) (a3 : T3) (a4 : T4) (a5 : T5) (a6 : T6) (hs : I a1 a2 a3 a4 a5 a6) : ∃ n, LOOP6 step n a1 a2 a3 a4 a5 a6 := by
  suffices h2 : ∀ (n : Nat) (a1 : T1) (a2 : T2) (a3 : T3) (a4 : T4) (a5 : T5) (a6 : T6), I a1 a2 a3 a4 a5 a6 → μ a1 a2 a3 a4 a5 a6 < n → LOOP6 step n a1 a2 a3 a4 a5 a6 from ⟨_, h2 _ a1 a2 a3 a4 a5 a6 hs (Nat.lt_succ_self _)⟩
  intro n
  induction n with
  | zero => intro a1 a2 a3 a4 a5 a6 _ h; exact absurd h (Nat.not_lt_zero _)
  | succ n ih => intro a1 a2 a3 a4 a5 a6 hI hm; exact h a1 a2 a3 a4 a5 a6 (LOOP6 step n) hI (fun b1 b2 b3 b4 b5 b6 h1 h2 => ih b1 b2 b3 b4 b5 b6 h1 (by omega))
def LOOP7 {T1 T2 T3 T4 T5 T6 T7 : Type} (step : T1 → T2 → T3 → T4 → T5 → T6 → T7 → (T1 → T2 → T3 → T4 → T5 → T6 → T7 → Prop) → Prop) : Nat → T1 → T2 → T3 → T4 → T5 → T6 → T7 → Prop
  | 0 => fun _ _ _ _ _ _ _ => False
  | n + 1 => fun a1 a2 a3 a4 a5 a6 a7 => step a1 a2 a3 a4 a5 a6 a7 (LOOP7 step n)
theorem LOOP7_s {T1 T2 T3 T4 T5 T6 T7 : Type} {step : T1 → T2 → T3 → T4 → T5 → T6 → T7 → (T1 → T2 → T3 → T4 → T5 → T6 → T7 → Prop) → Prop} {n : Nat} {a1 : T1} {a2 : T2} {a3 : T3} {a4 : T4} {a5 : T5} {a6 : T6} {a7 : T7} (h : LOOP7 step (n + 1) a1 a2 a3 a4 a5 a6 a7) : step a1 a2 a3 a4 a5 a6 a7 (LOOP7 step n) := h
theorem LOOP7_inv {T1 T2 T3 T4 T5 T6 T7 : Type} {step : T1 → T2 → T3 → T4 → T5 → T6 → T7 → (T1 → T2 → T3 → T4 → T5 → T6 → T7 → Prop) → Prop} (I : T1 → T2 → T3 → T4 → T5 → T6 → T7 → Prop) (μ : T1 → T2 → T3 → T4 → T5 → T6 → T7 → Nat) (h : ∀ (a1 : T1) (a2 : T2) (a3 : T3) (a4 : T4) (a5 : T5) (a6 : T6) (a7 : T7) (again : T1 → T2 → T3 → T4 → T5 → T6 → T7 → Prop), I a1 a2 a3 a4 a5 a6 a7 → (∀ (b1 : T1) (b2 : T2) (b3 : T3) (b4 : T4) (b5 : T5) (b6 : T6) (b7 : T7), I b1 b2 b3 b4 b5 b6 b7 → μ b1 b2 b3 b4 b5 b6 b7 < μ a1 a2 a3 a4 a5 a6 a7 → again b1 b2 b3 b4 b5 b6 b7) → step a1 a2 a3 a4 a5 a6 a7 again) (a1 : T1) (a2 : T2) (a3 : T3) (a4 : T4) (a5 : T5) (a6 : T6) (a7 : T7) (hs : I a1 a2 a3 a4 a5 a6 a7) : ∃ n, LOOP7 step n a1 a2 a3 a4 a5 a6 a7 := by
  suffices h2 : ∀ (n : Nat) (a1 : T1) (a2 : T2) (a3 : T3) (a4 : T4) (a5 : T5) (a6 : T6) (a7 : T7), I a1 a2 a3 a4 a5 a6 a7 → μ a1 a2 a3 a4 a5 a6 a7 < n → LOOP7 step n a1 a2 a3 a4 a5 a6 a7 from ⟨_, h2 _ a1 a2 a3 a4 a5 a6 a7 hs (Nat.lt_succ_self _)⟩
  intro n
  induction n with
  | zero => intro a1 a2 a3 a4 a5 a6 a7 _ h; exact absurd h (Nat.not_lt_zero _)
  | succ n ih => intro a1 a2 a3 a4 a5 a6 a7 hI hm; exact h a1 a2 a3 a4 a5 a6 a7 (LOOP7 step n) hI (fun b1 b2 b3 b4 b5 b6 b7 h1 h2 => ih b1 b2 b3 b4 b5 b6 b7 h1 (by omega))
def LOOP8 {T1 T2 T3 T4 T5 T6 T7 T8 : Type} (step : T1 → T2 → T3 → T4 → T5 → T6 → T7 → T8 → (T1 → T2 → T3 → T4 → T5 → T6 → T7 → T8 → Prop) → Prop) : Nat → T1 → T2 → T3 → T4 → T5 → T6 → T7 → T8 → Prop
  | 0 => fun _ _ _ _ _ _ _ _ => False
  | n + 1 => fun a1 a2 a3 a4 a5 a6 a7 a8 => step a1 a2 a3 a4 a5 a6 a7 a8 (LOOP8 step n)
theorem LOOP8_s {T1 T2 T3 T4 T5 T6 T7 T8 : Type} {step : T1 → T2 → T3 → T4 → T5 → T6 → T7 → T8 → (T1 → T2 → T3 → T4 → T5 → T6 → T7 → T8 → Prop) → Prop} {n : Nat} {a1 : T1} {a2 : T2} {a3 : T3} {a4 : T4} {a5 : T5} {a6 : T6} {a7 : T7} {a8 : T8} (h : LOOP8 step (n + 1) a1 a2 a3 a4 a5 a6 a7 a8) : step a1 a2 a3 a4 a5 a6 a7 a8 (LOOP8 step n) := h
theorem LOOP8_inv {T1 T2 T3 T4 T5 T6 T7 T8 : Type} {step : T1 → T2 → T3 → T4 → T5 → T6 → T7 → T8 → (T1 → T2 → T3 → T4 → T5 → T6 → T7 → T8 → Prop) → Prop} (I : T1 → T2 → T3 → T4 → T5 → T6 → T7 → T8 → Prop) (μ : T1 → T2 → T3 → T4 → T5 → T6 → T7 → T8 → Nat) (h : ∀ (a1 : T1) (a2 : T2) (a3 : T3) (a4 : T4) (a5 : T5) (a6 : T6) (a7 : T7) (a8 : T8) (again : T1 → T2 → T3 → T4 → T5 → T6 → T7 → T8 → Prop), I a1 a2 a3 a4 a5 a6 a7 a8 → (∀ (b1 : T1) (b2 : T2) (b3 : T3) (b4 : T4) (b5 : T5) (b6 : T6) (b7 : T7) (b8 : T8), I b1 b2 b3 b4 b5 b6 b7 b8 → μ b1 b2 b3 b4 b5 b6 b7 b8 < μ a1 a2 a3 a4 a5 a6 a7 a8 → again b1 b2 b3 b4 b5 b6 b7 b8) → step a1 a2 a3 a4 a5 a6 a7 a8 again) (a1 : T1) (a2 : T2) (a3 : T3) (a4 : T4) (a5 : T5) (a6 : T6) (a7 : T7) (a8 : T8) (hs : I a1 a2 a3 a4 a5 a6 a7 a8) : ∃ n, LOOP8 step n a1 a2 a3 a4 a5 a6 a7 a8 := by
  suffices h2 : ∀ (n : Nat) (a1 : T1) (a2 : T2) (a3 : T3) (a4 : T4) (a5 : T5) (a6 : T6) (a7 : T7) (a8 : T8), I a1 a2 a3 a4 a5 a6 a7 a8 → μ a1 a2 a3 a4 a5 a6 a7 a8 < n → LOOP8 step n a1 a2 a3 a4 a5 a6 a7 a8 from ⟨_, h2 _ a1 a2 a3 a4 a5 a6 a7 a8 hs (Nat.lt_succ_self _)⟩
  intro n
  induction n with
  | zero => intro a1 a2 a3 a4 a5 a6 a7 a8 _ h; exact absurd h (Nat.not_lt_zero _)
  | succ n ih => intro a1 a2 a3 a4 a5 a6 a7 a8 hI hm; exact h a1 a2 a3 a4 a5 a6 a7 a8 (LOOP8 step n) hI (fun b1 b2 b3 b4 b5 b6 b7 b8 h1 h2 => ih b1 b2 b3 b4 b5 b6 b7 b8 h1 (by omega))
def LOOP9 {T1 T2 T3 T4 T5 T6 T7 T8 T9 : Type} (step : T1 → T2 → T3 → T4 → T5 → T6 → T7 → T8 → T9 → (T1 → T2 → T3 → T4 → T5 → T6 → T7 → T8 → T9 → Prop) → Prop) : Nat → T1 → T2 → T3 → T4 → T5 → T6 → T7 → T8 → T9 → Prop
  | 0 => fun _ _ _ _ _ _ _ _ _ => False
  | n + 1 => fun a1 a2 a3 a4 a5 a6 a7 a8 a9 => step a1 a2 a3 a4 a5 a6 a7 a8 a9 (LOOP9 step n)
theorem LOOP9_s {T1 T2 T3 T4 T5 T6 T7 T8 T9 : Type} {step : T1 → T2 → T3 → T4 → T5 → T6 → T7 → T8 → T9 → (T1 → T2 → T3 → T4 → T5 → T6 → T7 → T8 → T9 → Prop) → Prop} {n : Nat} {a1 : T1} {a2 : T2} {a3 : T3} {a4 : T4} {a5 : T5} {a6 : T6} {a7 : T7} {a8 : T8} {a9 : T9} (h : LOOP9 step (n + 1) a1 a2 a3 a4 a5 a6 a7 a8 a9) : step a1 a2 a3 a4 a5 a6 a7 a8 a9 (LOOP9 step n) := h
theorem LOOP9_inv {T1 T2 T3 T4 T5 T6 T7 T8 T9 : Type} {step : T1 → T2 → T3 → T4 → T5 → T6 → T7 → T8 → T9 → (T1 → T2 → T3 → T4 → T5 → T6 → T7 → T8 → T9 → Prop) → Prop} (I : T1 → T2 → T3 → T4 → T5 → T6 → T7 → T8 → T9 → Prop) (μ : T1 → T2 → T3 → T4 → T5 → T6 → T7 → T8 → T9 → Nat) (h : ∀ (a1 : T1) (a2 : T2) (a3 : T3) (a4 : T4) (a5 : T5) (a6 : T6) (a7 : T7) (a8 : T8) (a9 : T9) (again : T1 → T2 → T3 → T4 → T5 → T6 → T7 → T8 → T9 → Prop), I a1 a2 a3 a4 a5 a6 a7 a8 a9 → (∀ (b1 : T1) (b2 : T2) (b3 : T3) (b4 : T4) (b5 : T5) (b6 : T6) (b7 : T7) (b8 : T8) (b9 : T9), I b1 b2 b3 b4 b5 b6 b7 b8 b9 → μ b1 b2 b3 b4 b5 b6 b7 b8 b9 < μ a1 a2 a3 a4 a5 a6 a7 a8 a9 → again b1 b2 b3 b4 b5 b6 b7 b8 b9) → step a1 a2 a3 a4 a5 a6 a7 a8 a9 again) (a1 : T1) (a2 : T2) (a3 : T3) (a4 : T4) (a5 : T5) (a6 : T6) (a7 : T7) (a8 : T8) (a9 : T9) (hs : I a1 a2 a3 a4 a5 a6 a7 a8 a9) : ∃ n, LOOP9 step n a1 a2 a3 a4 a5 a6 a7 a8 a9 := by
  suffices h2 : ∀ (n : Nat) (a1 : T1) (a2 : T2) (a3 : T3) (a4 : T4) (a5 : T5) (a6 : T6) (a7 : T7) (a8 : T8) (a9 : T9), I a1 a2 a3 a4 a5 a6 a7 a8 a9 → μ a1 a2 a3 a4 a5 a6 a7 a8 a9 < n → LOOP9 step n a1 a2 a3 a4 a5 a6 a7 a8 a9 from ⟨_, h2 _ a1 a2 a3 a4 a5 a6 a7 a8 a9 hs (Nat.lt_succ_self _)⟩
  intro n
  induction n with
  | zero => intro a1 a2 a3 a4 a5 a6 a7 a8 a9 _ h; exact absurd h (Nat.not_lt_zero _)
  | succ n ih => intro a1 a2 a3 a4 a5 a6 a7 a8 a9 hI hm; exact h a1 a2 a3 a4 a5 a6 a7 a8 a9 (LOOP9 step n) hI (fun b1 b2 b3 b4 b5 b6 b7 b8 b9 h1 h2 => ih b1 b2 b3 b4 b5 b6 b7 b8 b9 h1 (by omega))
def LOOP10 {T1 T2 T3 T4 T5 T6 T7 T8 T9 T10 : Type} (step : T1 → T2 → T3 → T4 → T5 → T6 → T7 → T8 → T9 → T10 → (T1 → T2 → T3 → T4 → T5 → T6 → T7 → T8 → T9 → T10 → Prop) → Prop) : Nat → T1 → T2 → T3 → T4 → T5 → T6 → T7 → T8 → T9 → T10 → Prop
  | 0 => fun _ _ _ _ _ _ _ _ _ _ => False
  | n + 1 => fun a1 a2 a3 a4 a5 a6 a7 a8 a9 a10 => step a1 a2 a3 a4 a5 a6 a7 a8 a9 a10 (LOOP10 step n)
theorem LOOP10_s {T1 T2 T3 T4 T5 T6 T7 T8 T9 T10 : Type} {step : T1 → T2 → T3 → T4 → T5 → T6 → T7 → T8 → T9 → T10 → (T1 → T2 → T3 → T4 → T5 → T6 → T7 → T8 → T9 → T10 → Prop) → Prop} {n : Nat} {a1 : T1} {a2 : T2} {a3 : T3} {a4 : T4} {a5 : T5} {a6 : T6} {a7 : T7} {a8 : T8} {a9 : T9} {a10 : T10} (h : LOOP10 step (n + 1) a1 a2 a3 a4 a5 a6 a7 a8 a9 a10) : step a1 a2 a3 a4 a5 a6 a7 a8 a9 a10 (LOOP10 step n) := h
theorem LOOP10_inv {T1 T2 T3 T4 T5 T6 T7 T8 T9 T10 : Type} {step : T1 → T2 → T3 → T4 → T5 → T6 → T7 → T8 → T9 → T10 → (T1 → T2 → T3 → T4 → T5 → T6 → T7 → T8 → T9 → T10 → Prop) → Prop} (I : T1 → T2 → T3 → T4 → T5 → T6 → T7 → T8 → T9 → T10 → Prop) (μ : T1 → T2 → T3 → T4 → T5 → T6 → T7 → T8 → T9 → T10 → Nat) (h : ∀ (a1 : T1) (a2 : T2) (a3 : T3) (a4 : T4) (a5 : T5) (a6 : T6) (a7 : T7) (a8 : T8) (a9 : T9) (a10 : T10) (again : T1 → T2 → T3 → T4 → T5 → T6 → T7 → T8 → T9 → T10 → Prop), I a1 a2 a3 a4 a5 a6 a7 a8 a9 a10 → (∀ (b1 : T1) (b2 : T2) (b3 : T3) (b4 : T4) (b5 : T5) (b6 : T6) (b7 : T7) (b8 : T8) (b9 : T9) (b10 : T10), I b1 b2 b3 b4 b5 b6 b7 b8 b9 b10 → μ b1 b2 b3 b4 b5 b6 b7 b8 b9 b10 < μ a1 a2 a3 a4 a5 a6 a7 a8 a9 a10 → again b1 b2 b3 b4 b5 b6 b7 b8 b9 b10) → step a1 a2 a3 a4 a5 a6 a7 a8 a9 a10 again) (a1 : T1) (a2 : T2) (a3 : T3) (a4 : T4) (a5 : T5) (a6 : T6) (a7 : T7) (a8 : T8) (a9 : T9) (a10 : T10) (hs : I a1 a2 a3 a4 a5 a6 a7 a8 a9 a10) : ∃ n, LOOP10 step n a1 a2 a3 a4 a5 a6 a7 a8 a9 a10 := by
  suffices h2 : ∀ (n : Nat) (a1 : T1) (a2 : T2) (a3 : T3) (a4 : T4) (a5 : T5) (a6 : T6) (a7 : T7) (a8 : T8) (a9 : T9) (a10 : T10), I a1 a2 a3 a4 a5 a6 a7 a8 a9 a10 → μ a1 a2 a3 a4 a5 a6 a7 a8 a9 a10 < n → LOOP10 step n a1 a2 a3 a4 a5 a6 a7 a8 a9 a10 from ⟨_, h2 _ a1 a2 a3 a4 a5 a6 a7 a8 a9 a10 hs (Nat.lt_succ_self _)⟩
  intro n
  induction n with
  | zero => intro a1 a2 a3 a4 a5 a6 a7 a8 a9 a10 _ h; exact absurd h (Nat.not_lt_zero _)
  | succ n ih => intro a1 a2 a3 a4 a5 a6 a7 a8 a9 a10 hI hm; exact h a1 a2 a3 a4 a5 a6 a7 a8 a9 a10 (LOOP10 step n) hI (fun b1 b2 b3 b4 b5 b6 b7 b8 b9 b10 h1 h2 => ih b1 b2 b3 b4 b5 b6 b7 b8 b9 b10 h1 (by omega))
def LOOP11 {T1 T2 T3 T4 T5 T6 T7 T8 T9 T10 T11 : Type} (step : T1 → T2 → T3 → T4 → T5 → T6 → T7 → T8 → T9 → T10 → T11 → (T1 → T2 → T3 → T4 → T5 → T6 → T7 → T8 → T9 → T10 → T11 → Prop) → Prop) : Nat → T1 → T2 → T3 → T4 → T5 → T6 → T7 → T8 → T9 → T10 → T11 → Prop
  | 0 => fun _ _ _ _ _ _ _ _ _ _ _ => False
  | n + 1 => fun a1 a2 a3 a4 a5 a6 a7 a8 a9 a10 a11 => step a1 a2 a3 a4 a5 a6 a7 a8 a9 a10 a11 (LOOP11 step n)
theorem LOOP11_s {T1 T2 T3 T4 T5 T6 T7 T8 T9 T10 T11 : Type} {step : T1 → T2 → T3 → T4 → T5 → T6 → T7 → T8 → T9 → T10 → T11 → (T1 → T2 → T3 → T4 → T5 → T6 → T7 → T8 → T9 → T10 → T11 → Prop) → Prop} {n : Nat} {a1 : T1} {a2 : T2} {a3 : T3} {a4 : T4} {a5 : T5} {a6 : T6} {a7 : T7} {a8 : T8} {a9 : T9} {a10 : T10} {a11 : T11} (h : LOOP11 step (n + 1) a1 a2 a3 a4 a5 a6 a7 a8 a9 a10 a11) : step a1 a2 a3 a4 a5 a6 a7 a8 a9 a10 a11 (LOOP11 step n) := h
theorem LOOP11_inv {T1 T2 T3 T4 T5 T6 T7 T8 T9 T10 T11 : Type} {step : T1 → T2 → T3 → T4 → T5 → T6 → T7 → T8 → T9 → T10 → T11 → (T1 → T2 → T3 → T4 → T5 → T6 → T7 → T8 → T9 → T10 → T11 → Prop) → Prop} (I : T1 → T2 → T3 → T4 → T5 → T6 → T7 → T8 → T9 → T10 → T11 → Prop) (μ : T1 → T2 → T3 → T4 → T5 → T6 → T7 → T8 → T9 → T10 → T11 → Nat) (h : ∀ (a1 : T1) (a2 : T2) (a3 : T3) (a4 : T4) (a5 : T5) (a6 : T6) (a7 : T7) (a8 : T8) (a9 : T9) (a10 : T10) (a11 : T11) (again : T1 → T2 → T3 → T4 → T5 → T6 → T7 → T8 → T9 → T10 → T11 → Prop), I a1 a2 a3 a4 a5 a6 a7 a8 a9 a10 a11 → (∀ (b1 : T1) (b2 : T2) (b3 : T3) (b4 : T4) (b5 : T5) (b6 : T6) (b7 : T7) (b8 : T8) (b9 : T9) (b10 : T10) (b11 : T11), I b1 b2 b3 b4 b5 b6 b7 b8 b9 b10 b11 → μ b1 b2 b3 b4 b5 b6 b7 b8 b9 b10 b11 < μ a1 a2 a3 a4 a5 a6 a7 a8 a9 a10 a11 → again b1 b2 b3 b4 b5 b6 b7 b8 b9 b10 b11) → step a1 a2 a3 a4 a5 a6 a7 a8 a9 a10 a11 again) (a1 : T1) (a2 : T2) (a3 : T3) (a4 : T4) (a5 : T5) (a6 : T6) (a7 : T7) (a8 : T8) (a9 : T9) (a10 : T10) (a11 : T11) (hs : I a1 a2 a3 a4 a5 a6 a7 a8 a9 a10 a11) : ∃ n, LOOP11 step n a1 a2 a3 a4 a5 a6 a7 a8 a9 a10 a11 := by
  suffices h2 : ∀ (n : Nat) (a1 : T1) (a2 : T2) (a3 : T3) (a4 : T4) (a5 : T5) (a6 : T6) (a7 : T7) (a8 : T8) (a9 : T9) (a10 : T10) (a11 : T11), I a1 a2 a3 a4 a5 a6 a7 a8 a9 a10 a11 → μ a1 a2 a3 a4 a5 a6 a7 a8 a9 a10 a11 < n → LOOP11 step n a1 a2 a3 a4 a5 a6 a7 a8 a9 a10 a11 from ⟨_, h2 _ a1 a2 a3 a4 a5 a6 a7 a8 a9 a10 a11 hs (Nat.lt_succ_self _)⟩
  intro n
  induction n with
  | zero => intro a1 a2 a3 a4 a5 a6 a7 a8 a9 a10 a11 _ h; exact absurd h (Nat.not_lt_zero _)
  | succ n ih => intro a1 a2 a3 a4 a5 a6 a7 a8 a9 a10 a11 hI hm; exact h a1 a2 a3 a4 a5 a6 a7 a8 a9 a10 a11 (LOOP11 step n) hI (fun b1 b2 b3 b4 b5 b6 b7 b8 b9 b10 b11 h1 h2 => ih b1 b2 b3 b4 b5 b6 b7 b8 b9 b10 b11 h1 (by omega))
def LOOP12 {T1 T2 T3 T4 T5 T6 T7 T8 T9 T10 T11 T12 : Type} (step : T1 → T2 → T3 → T4 → T5 → T6 → T7 → T8 → T9 → T10 → T11 → T12 → (T1 → T2 → T3 → T4 → T5 → T6 → T7 → T8 → T9 → T10 → T11 → T12 → Prop) → Prop) : Nat → T1 → T2 → T3 → T4 → T5 → T6 → T7 → T8 → T9 → T10 → T11 → T12 → Prop
  | 0 => fun _ _ _ _ _ _ _ _ _ _ _ _ => False
  | n + 1 => fun a1 a2 a3 a4 a5 a6 a7 a8 a9 a10 a11 a12 => step a1 a2 a3 a4 a5 a6 a7 a8 a9 a10 a11 a12 (LOOP12 step n)
theorem LOOP12_s {T1 T2 T3 T4 T5 T6 T7 T8 T9 T10 T11 T12 : Type} {step : T1 → T2 → T3 → T4 → T5 → T6 → T7 → T8 → T9 → T10 → T11 → T12 → (T1 → T2 → T3 → T4 → T5 → T6 → T7 → T8 → T9 → T10 → T11 → T12 → Prop) → Prop} {n : Nat} {a1 : T1} {a2 : T2} {a3 : T3} {a4 : T4} {a5 : T5} {a6 : T6} {a7 : T7} {a8 : T8} {a9 : T9} {a10 : T10} {a11 : T11} {a12 : T12} (h : LOOP12 step (n + 1) a1 a2 a3 a4 a5 a6 a7 a8 a9 a10 a11 a12) : step a1 a2 a3 a4 a5 a6 a7 a8 a9 a10 a11 a12 (LOOP12 step n) := h
theorem LOOP12_inv {T1 T2 T3 T4 T5 T6 T7 T8 T9 T10 T11 T12 : Type} {step : T1 → T2 → T3 → T4 → T5 → T6 → T7 → T8 → T9 → T10 → T11 → T12 → (T1 → T2 → T3 → T4 → T5 → T6 → T7 → T8 → T9 → T10 → T11 → T12 → Prop) → Prop} (I : T1 → T2 → T3 → T4 → T5 → T6 → T7 → T8 → T9 → T10 → T11 → T12 → Prop) (μ : T1 → T2 → T3 → T4 → T5 → T6 → T7 → T8 → T9 → T10 → T11 → T12 → Nat) (h : ∀ (a1 : T1) (a2 : T2) (a3 : T3) (a4 : T4) (a5 : T5) (a6 : T6) (a7 : T7) (a8 : T8) (a9 : T9) (a10 : T10) (a11 : T11) (a12 : T12) (again : T1 → T2 → T3 → T4 → T5 → T6 → T7 → T8 → T9 → T10 → T11 → T12 → Prop), I a1 a2 a3 a4 a5 a6 a7 a8 a9 a10 a11 a12 → (∀ (b1 : T1) (b2 : T2) (b3 : T3) (b4 : T4) (b5 : T5) (b6 : T6) (b7 : T7) (b8 : T8) (b9 : T9) (b10 : T10) (b11 : T11) (b12 : T12), I b1 b2 b3 b4 b5 b6 b7 b8 b9 b10 b11 b12 → μ b1 b2 b3 b4 b5 b6 b7 b8 b9 b10 b11 b12 < μ a1 a2 a3 a4 a5 a6 a7 a8 a9 a10 a11 a12 → again b1 b2 b3 b4 b5 b6 b7 b8 b9 b10 b11 b12) → step a1 a2 a3 a4 a5 a6 a7 a8 a9 a10 a11 a12 again) (a1 : T1) (a2 : T2) (a3 : T3) (a4 : T4) (a5 : T5) (a6 : T6) (a7 : T7) (a8 : T8) (a9 : T9) (a10 : T10) (a11 : T11) (a12 : T12) (hs : I a1 a2 a3 a4 a5 a6 a7 a8 a9 a10 a11 a12) : ∃ n, LOOP12 step n a1 a2 a3 a4 a5 a6 a7 a8 a9 a10 a11 a12 := by
  suffices h2 : ∀ (n : Nat) (a1 : T1) (a2 : T2) (a3 : T3) (a4 : T4) (a5 : T5) (a6 : T6) (a7 : T7) (a8 : T8) (a9 : T9) (a10 : T10) (a11 : T11) (a12 : T12), I a1 a2 a3 a4 a5 a6 a7 a8 a9 a10 a11 a12 → μ a1 a2 a3 a4 a5 a6 a7 a8 a9 a10 a11 a12 < n → LOOP12 step n a1 a2 a3 a4 a5 a6 a7 a8 a9 a10 a11 a12 from ⟨_, h2 _ a1 a2 a3 a4 a5 a6 a7 a8 a9 a10 a11 a12 hs (Nat.lt_succ_self _)⟩
  intro n
  induction n with
  | zero => intro a1 a2 a3 a4 a5 a6 a7 a8 a9 a10 a11 a12 _ h; exact absurd h (Nat.not_lt_zero _)
  | succ n ih => intro a1 a2 a3 a4 a5 a6 a7 a8 a9 a10 a11 a12 hI hm; exact h a1 a2 a3 a4 a5 a6 a7 a8 a9 a10 a11 a12 (LOOP12 step n) hI (fun b1 b2 b3 b4 b5 b6 b7 b8 b9 b10 b11 b12 h1 h2 => ih b1 b2 b3 b4 b5 b6 b7 b8 b9 b10 b11 b12 h1 (by omega))
