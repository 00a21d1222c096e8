/-! new objects and the names of their places -/
def m2 {α : Type} (f : Nat → Nat → α) (a b : Nat) (v : α) : Nat → Nat → α := fun x y => if x = a ∧ y = b then v else f x y
theorem m2_at {α : Type} (f : Nat → Nat → α) (a b : Nat) (v : α) : m2 f a b v a b = v := if_pos ⟨rfl, rfl⟩
theorem m2_ne {α : Type} (f : Nat → Nat → α) {a b x y : Nat} (v : α) (h : ¬ (x = a ∧ y = b)) : m2 f a b v x y = f x y := if_neg h
abbrev AF : Type := Nat → Nat → Bool
abbrev KF : Type := Nat → Nat → Nat × Nat
abbrev IF : Type := Nat → Nat → Nat → Int32
abbrev RF2 : Type := Nat → Nat → Nat → Option (Nat × Nat)
def Em (Y : Ly) (M : Mm) (q : Nat → Nat → Nat) (A : AF) (K : KF) (I : IF) (R : RF2) : Prop :=
  (∀ a b, A a b = true → yK Y (q a b) = (K a b).1 ∧ ¬ (K a b).1 = 0 ∧ yN Y (q a b) = (K a b).2 ∧ mI M (q a b) = I a b ∧ mJ M (q a b) = (fun _ => 0) ∧ ∀ f t, R a b f = some t → A t.1 t.2 = true ∧ mR M (q a b) f = some (q t.1 t.2)) ∧ (∀ a b c d, A a b = true → A c d = true → q a b = q c d → a = c ∧ b = d) ∧ ∃ Bd, ∀ a b, A a b = true → q a b < Bd
def A0 : AF := fun _ _ => false
def K0 : KF := fun _ _ => (0, 0)
def I0 : IF := fun _ _ _ => 0
def R0 : RF2 := fun _ _ _ => none
theorem Em_0 (Y : Ly) (M : Mm) (q : Nat → Nat → Nat) : Em Y M q A0 K0 I0 R0 := ⟨(fun a b h => by cases h), (fun a b c d h => by cases h), 0, (fun a b h => by cases h)⟩
theorem Em_new {Y : Ly} {M : Mm} {q : Nat → Nat → Nat} {A : AF} {K : KF} {I : IF} {R : RF2} (E : Em Y M q A K I R) (a b : Nat) {k n p : Nat} (hA : A a b = false) (hp : yK Y p = 0) (hk : ¬ k = 0) : Em (yNew Y p k n) (mZ M p) (m2 q a b p) (m2 A a b true) (m2 K a b (k, n)) (m2 I a b (fun _ => 0)) (m2 R a b (fun _ => none)) := by
  obtain ⟨h1, h2, Bd, h3⟩ := E
  have hne : ∀ x y, A x y = true → ¬ q x y = p := fun x y h e => by
    have := h1 x y h
    rw [e, hp] at this
    exact this.2.1 this.1.symm
  have hab : ∀ x y, A x y = true → ¬ (x = a ∧ y = b) := fun x y h e => by rw [e.1, e.2, hA] at h; cases h
  have hold : ∀ x y, ¬ (x = a ∧ y = b) → m2 A a b true x y = true → A x y = true := fun x y hn h => by rwa [m2_ne _ _ hn] at h
  refine ⟨fun x y h => ?_, fun x y c d h h' e => ?_, max Bd (p + 1), fun x y h => ?_⟩
  · by_cases z : x = a ∧ y = b
    · obtain ⟨rfl, rfl⟩ := z
      rw [m2_at, m2_at, m2_at, m2_at]
      refine ⟨m1_at _ _ _, hk, m1_at _ _ _, ?_, ?_, fun f t ht => by cases ht⟩
      · show m1 M.1 p (fun _ => 0) p = _
        exact m1_at _ _ _
      · show m1 M.2.1 p (fun _ => 0) p = _
        exact m1_at _ _ _
    · have hx := hold x y z h
      rw [m2_ne _ _ z, m2_ne _ _ z, m2_ne _ _ z, m2_ne _ _ z]
      obtain ⟨g1, g2, g3, g4, g5, g6⟩ := h1 x y hx
      have hq := hne x y hx
      refine ⟨?_, g2, ?_, ?_, ?_, fun f t ht => ?_⟩
      · show m1 Y.1 p k (q x y) = _
        rw [m1_nat _ _ hq]; exact g1
      · show m1 Y.2 p n (q x y) = _
        rw [m1_nat _ _ hq]; exact g3
      · show m1 M.1 p _ (q x y) = _
        rw [m1_nat _ _ hq]; exact g4
      · show m1 M.2.1 p _ (q x y) = _
        rw [m1_nat _ _ hq]; exact g5
      · obtain ⟨w1, w2⟩ := g6 f t ht
        have ht2 := hab _ _ w1
        refine ⟨by rw [m2_ne _ _ ht2]; exact w1, ?_⟩
        rw [m2_ne _ _ ht2]
        show m1 M.2.2 p _ (q x y) f = _
        rw [m1_nat _ _ hq]; exact w2
  · by_cases z : x = a ∧ y = b
    · by_cases w : c = a ∧ d = b
      · exact ⟨by rw [z.1, w.1], by rw [z.2, w.2]⟩
      · rw [m2_ne _ _ w] at e
        rw [z.1, z.2, m2_at] at e
        exact absurd e.symm (hne c d (hold c d w h'))
    · by_cases w : c = a ∧ d = b
      · rw [m2_ne _ _ z, w.1, w.2, m2_at] at e
        exact absurd e (hne x y (hold x y z h))
      · rw [m2_ne _ _ z, m2_ne _ _ w] at e
        exact h2 x y c d (hold x y z h) (hold c d w h') e
  · by_cases z : x = a ∧ y = b
    · rw [z.1, z.2, m2_at]; omega
    · rw [m2_ne _ _ z]
      have := h3 x y (hold x y z h)
      omega
theorem nw {Y : Ly} {M : Mm} {q : Nat → Nat → Nat} {A : AF} {K : KF} {I : IF} {R : RF2} (E : Em Y M q A K I R) (a b : Nat) {k n : Nat} {Kn : Nat → Ly → Mm → Prop} (hA : A a b = false) (hk : ¬ k = 0) (h : ∀ q' Y' M', (∀ x y, A x y = true → q' x y = q x y) → Em Y' M' q' (m2 A a b true) (m2 K a b (k, n)) (m2 I a b (fun _ => 0)) (m2 R a b (fun _ => none)) → Kn (q' a b) Y' M') : ∀ p, yK Y p = 0 → ∀ Y', Y' = yNew Y p k n → ∀ M', M' = mZ M p → Kn p Y' M' := by
  intro p hp Y' eY M' eM
  have := h (m2 q a b p) Y' M' (fun x y hx => m2_ne _ _ (fun e => by rw [e.1, e.2, hA] at hx; cases hx)) (by rw [eY, eM]; exact Em_new E a b hA hp hk)
  rwa [m2_at] at this
theorem Em_R {Y : Ly} {M M' : Mm} {q : Nat → Nat → Nat} {A : AF} {K : KF} {I : IF} {R : RF2} (E : Em Y M q A K I R) (a b c d : Nat) {f : Nat} (e : M' = sR M (q a b) (m1 (mR M (q a b)) f (some (q c d)))) (hA : A a b = true) (hB : A c d = true) : Em Y M' q A K I (m2 R a b (m1 (R a b) f (some (c, d)))) := by
  obtain ⟨h1, h2, h3⟩ := E
  refine ⟨fun x y h => ?_, h2, h3⟩
  obtain ⟨g1, g2, g3, g4, g5, g6⟩ := h1 x y h
  refine ⟨g1, g2, g3, by rw [e]; exact g4, by rw [e]; exact g5, fun g t ht => ?_⟩
  by_cases z : x = a ∧ y = b
  · obtain ⟨rfl, rfl⟩ := z
    rw [m2_at] at ht
    have er : mR M' (q x y) = m1 (mR M (q x y)) f (some (q c d)) := by rw [e]; exact m1_at _ _ _
    rw [er]
    by_cases w : g = f
    · subst w
      rw [m1_at] at ht
      cases ht
      exact ⟨hB, m1_at _ _ _⟩
    · rw [m1_nat _ _ w] at ht ⊢
      exact g6 g t ht
  · rw [m2_ne _ _ z] at ht
    obtain ⟨w1, w2⟩ := g6 g t ht
    refine ⟨w1, ?_⟩
    rw [e]
    show m1 M.2.2 (q a b) _ (q x y) g = _
    rw [m1_nat _ _ (fun e2 => z (h2 x y a b h hA e2))]; exact w2
theorem Em_I {Y : Ly} {M M' : Mm} {q : Nat → Nat → Nat} {A : AF} {K : KF} {I : IF} {R : RF2} (E : Em Y M q A K I R) (a b : Nat) {j : Nat} {v : Int32} (e : M' = sI M (q a b) (m1 (mI M (q a b)) j v)) (hA : A a b = true) : Em Y M' q A K (m2 I a b (m1 (I a b) j v)) R := by
  obtain ⟨h1, h2, h3⟩ := E
  refine ⟨fun x y h => ?_, h2, h3⟩
  obtain ⟨g1, g2, g3, g4, g5, g6⟩ := h1 x y h
  refine ⟨g1, g2, g3, ?_, by rw [e]; exact g5, fun f t ht => by rw [e]; exact g6 f t ht⟩
  by_cases z : x = a ∧ y = b
  · obtain ⟨rfl, rfl⟩ := z
    rw [m2_at, e, mI_sI_self, g4]
  · rw [m2_ne _ _ z, e]
    show m1 M.1 (q a b) _ (q x y) = _
    rw [m1_nat _ _ (fun e2 => z (h2 x y a b h hA e2))]; exact g4
theorem Em_k {Y : Ly} {M : Mm} {q : Nat → Nat → Nat} {A : AF} {K : KF} {I : IF} {R : RF2} (E : Em Y M q A K I R) (a b : Nat) {k : Nat} (hA : A a b = true) (hk : (K a b).1 = k) : yK Y (q a b) = k := by rw [(E.1 a b hA).1]; exact hk
theorem Em_n {Y : Ly} {M : Mm} {q : Nat → Nat → Nat} {A : AF} {K : KF} {I : IF} {R : RF2} (E : Em Y M q A K I R) (a b : Nat) {k : Nat} (hA : A a b = true) (hk : (K a b).2 = k) : yN Y (q a b) = k := by rw [(E.1 a b hA).2.2.1]; exact hk
theorem Em_r {Y : Ly} {M : Mm} {q : Nat → Nat → Nat} {A : AF} {K : KF} {I : IF} {R : RF2} (E : Em Y M q A K I R) (a b f c d : Nat) (hA : A a b = true) (hk : R a b f = some (c, d)) : mR M (q a b) f = some (q c d) := ((E.1 a b hA).2.2.2.2.2 f (c, d) hk).2
theorem Em_i {Y : Ly} {M : Mm} {q : Nat → Nat → Nat} {A : AF} {K : KF} {I : IF} {R : RF2} (E : Em Y M q A K I R) (a b : Nat) {f : Nat → Int32} (hA : A a b = true) (hk : I a b = f) : mI M (q a b) = f := by rw [(E.1 a b hA).2.2.2.1]; exact hk
theorem Em_j {Y : Ly} {M : Mm} {q : Nat → Nat → Nat} {A : AF} {K : KF} {I : IF} {R : RF2} (E : Em Y M q A K I R) (a b : Nat) (hA : A a b = true) : mJ M (q a b) = fun _ => 0 := (E.1 a b hA).2.2.2.2.1
/-- an argument is brought into its bounds -/
theorem clm (lo hi : Nat) (h1 : lo ≤ hi) (h2 : hi < 2 ^ 31) (v : Int32) : ∃ n, lo ≤ n ∧ n ≤ hi ∧ (if nI lo < (if nI hi < v then nI hi else v) then (if nI hi < v then nI hi else v) else nI lo) = nI n ∧ ∀ P : Int32 → Prop, P (nI n) → ((nI lo ≤ v → ((v ≤ nI hi → P v) ∧ (¬ (v ≤ nI hi) → P (nI hi)))) ∧ (¬ (nI lo ≤ v) → P (nI lo))) := by
  by_cases z : v < 0
  · have a : v < nI lo := Int32.lt_of_lt_of_le z (nI_ge0 (by omega))
    have b : ¬ nI hi < v := fun w => by
      have := Int32.lt_trans z (Int32.lt_of_le_of_lt (nI_ge0 (n := hi) (by omega)) w)
      exact Int32.lt_irrefl this
    refine ⟨lo, Nat.le_refl _, h1, ?_, fun P hP => ⟨fun w => absurd a (Int32.not_lt.mpr w), fun _ => hP⟩⟩
    rw [if_neg b, if_neg (fun w => Int32.lt_irrefl (Int32.lt_trans w a))]
  · obtain ⟨k, hk, rfl⟩ := nI_of z
    rcases Nat.lt_or_ge k lo with c | c
    · have b : ¬ nI hi < nI k := by rw [nI_ltI (by omega) (by omega)]; omega
      refine ⟨lo, Nat.le_refl _, h1, ?_, fun P hP => ⟨fun w => ?_, fun _ => hP⟩⟩
      · rw [if_neg b, if_neg (by rw [nI_ltI (by omega) (by omega)]; omega)]
      · rw [nI_cmp (by omega) (by omega)] at w; omega
    · rcases Nat.lt_or_ge hi k with d | d
      · have b : nI hi < nI k := by rw [nI_ltI (by omega) (by omega)]; omega
        refine ⟨hi, h1, Nat.le_refl _, ?_, fun P hP => ⟨fun _ => ⟨fun w => ?_, fun _ => hP⟩, fun w => ?_⟩⟩
        · rw [if_pos b]
          by_cases e : nI lo < nI hi
          · rw [if_pos e]
          · rw [nI_ltI (by omega) (by omega)] at e
            rw [show lo = hi by omega, if_neg (by rw [nI_ltI (by omega) (by omega)]; omega)]
        · rw [nI_cmp (by omega) (by omega)] at w; omega
        · rw [nI_cmp (by omega) (by omega)] at w; omega
      · have b : ¬ nI hi < nI k := by rw [nI_ltI (by omega) (by omega)]; omega
        refine ⟨k, c, d, ?_, fun P hP => ⟨fun _ => ⟨fun _ => hP, fun w => ?_⟩, fun w => ?_⟩⟩
        · rw [if_neg b]
          by_cases e : nI lo < nI k
          · rw [if_pos e]
          · rw [nI_ltI (by omega) (by omega)] at e
            rw [show lo = k by omega, if_neg (by rw [nI_ltI (by omega) (by omega)]; omega)]
        · rw [nI_cmp (by omega) (by omega)] at w; omega
        · rw [nI_cmp (by omega) (by omega)] at w; omega
