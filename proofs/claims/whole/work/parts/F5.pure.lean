/-! the tables of the logs are made -/
abbrev tC (i x y : Nat) : Prop := x < 20 ∧ 1 ≤ x ∧ x ≤ i ∧ y < 5
def tA (i : Nat) (A : AF) : AF := fun x y => if tC i x y then true else A x y
def tK (i n : Nat) (K : KF) : KF := fun x y => if tC i x y then (if y = 0 then (8, 0) else if y = 4 then (101, n) else (101, 60)) else K x y
def tI (i : Nat) (I : IF) : IF := fun x y => if tC i x y then (if y = 0 then m1 (fun _ => 0) 0 (nI x) else fun _ => 0) else I x y
def tabR (x : Nat) : Nat → Option (Nat × Nat) := m1 (m1 (m1 (m1 (fun _ => none) 4 (some (x, 1))) 5 (some (x, 2))) 6 (some (x, 3))) 8 (some (x, 4))
def tR (i : Nat) (R : RF2) : RF2 := fun x y => if tC i x y then (if y = 0 then tabR x else fun _ => none) else if x = 0 ∧ y = 14 then (fun f => if f < i then some (f + 1, 0) else R 0 14 f) else R x y
theorem tA_0 (A : AF) : tA 0 A = A := by funext x y; unfold tA; rw [if_neg (by unfold tC; omega)]
theorem tK_0 (n : Nat) (K : KF) : tK 0 n K = K := by funext x y; unfold tK; rw [if_neg (by unfold tC; omega)]
theorem tI_0 (I : IF) : tI 0 I = I := by funext x y; unfold tI; rw [if_neg (by unfold tC; omega)]
theorem tR_0 (R : RF2) : tR 0 R = R := by
  funext x y; unfold tR
  rw [if_neg (by unfold tC; omega)]
  by_cases z : x = 0 ∧ y = 14
  · rw [if_pos z, z.1, z.2]; funext f; rw [if_neg (by omega)]
  · rw [if_neg z]
theorem tA_s {i : Nat} (h : i + 1 < 20) (A : AF) : m2 (m2 (m2 (m2 (m2 (tA i A) (i + 1) 0 true) (i + 1) 1 true) (i + 1) 2 true) (i + 1) 3 true) (i + 1) 4 true = tA (i + 1) A := by
  funext x y
  by_cases z : x = i + 1 ∧ y < 5
  · have e : tA (i + 1) A x y = true := if_pos (by unfold tC; omega)
    rw [e]
    unfold m2
    rcases z with ⟨rfl, hy⟩
    match y, hy with
    | 0, _ => simp
    | 1, _ => simp
    | 2, _ => simp
    | 3, _ => simp
    | 4, _ => simp
  · rw [m2_ne _ _ (by omega), m2_ne _ _ (by omega), m2_ne _ _ (by omega), m2_ne _ _ (by omega), m2_ne _ _ (by omega)]
    unfold tA
    by_cases w : tC i x y
    · rw [if_pos w, if_pos (show tC (i + 1) x y by unfold tC at *; omega)]
    · rw [if_neg w, if_neg (show ¬ tC (i + 1) x y by unfold tC at *; omega)]
theorem tK_s {i n : Nat} (h : i + 1 < 20) (K : KF) : m2 (m2 (m2 (m2 (m2 (tK i n K) (i + 1) 0 (8, 0)) (i + 1) 1 (101, 60)) (i + 1) 2 (101, 60)) (i + 1) 3 (101, 60)) (i + 1) 4 (101, n) = tK (i + 1) n K := by
  funext x y
  by_cases z : x = i + 1 ∧ y < 5
  · have e : tK (i + 1) n K x y = (if y = 0 then (8, 0) else if y = 4 then (101, n) else (101, 60)) := if_pos (by unfold tC; omega)
    rw [e]
    unfold m2
    rcases z with ⟨rfl, hy⟩
    match y, hy with
    | 0, _ => simp
    | 1, _ => simp
    | 2, _ => simp
    | 3, _ => simp
    | 4, _ => simp
  · rw [m2_ne _ _ (by omega), m2_ne _ _ (by omega), m2_ne _ _ (by omega), m2_ne _ _ (by omega), m2_ne _ _ (by omega)]
    unfold tK
    by_cases w : tC i x y
    · rw [if_pos w, if_pos (show tC (i + 1) x y by unfold tC at *; omega)]
    · rw [if_neg w, if_neg (show ¬ tC (i + 1) x y by unfold tC at *; omega)]
theorem tI_s {i : Nat} (h : i + 1 < 20) (I : IF) {J : IF} (hJ : J = m2 (m2 (m2 (m2 (tI i I) (i + 1) 0 (fun _ => 0)) (i + 1) 1 (fun _ => 0)) (i + 1) 2 (fun _ => 0)) (i + 1) 3 (fun _ => 0)) : m2 (m2 J (i + 1) 0 (m1 (J (i + 1) 0) 0 (nI (i + 1)))) (i + 1) 4 (fun _ => 0) = tI (i + 1) I := by
  have e0 : J (i + 1) 0 = fun _ => 0 := by rw [hJ, m2_ne _ _ (by omega), m2_ne _ _ (by omega), m2_ne _ _ (by omega), m2_at]
  rw [e0, hJ]
  funext x y
  by_cases z : x = i + 1 ∧ y < 5
  · have e : tI (i + 1) I x y = (if y = 0 then m1 (fun _ => 0) 0 (nI x) else fun _ => 0) := if_pos (by unfold tC; omega)
    rw [e]
    rcases z with ⟨rfl, hy⟩
    match y, hy with
    | 0, _ => rw [m2_ne _ _ (by omega), m2_at, if_pos rfl]
    | 1, _ => rw [m2_ne _ _ (by omega), m2_ne _ _ (by omega), m2_ne _ _ (by omega), m2_ne _ _ (by omega), m2_at, if_neg (by omega)]
    | 2, _ => rw [m2_ne _ _ (by omega), m2_ne _ _ (by omega), m2_ne _ _ (by omega), m2_at, if_neg (by omega)]
    | 3, _ => rw [m2_ne _ _ (by omega), m2_ne _ _ (by omega), m2_at, if_neg (by omega)]
    | 4, _ => rw [m2_at, if_neg (by omega)]
  · rw [m2_ne _ _ (by omega), m2_ne _ _ (by omega), m2_ne _ _ (by omega), m2_ne _ _ (by omega), m2_ne _ _ (by omega), m2_ne _ _ (by omega)]
    unfold tI
    by_cases w : tC i x y
    · rw [if_pos w, if_pos (show tC (i + 1) x y by unfold tC at *; omega)]
    · rw [if_neg w, if_neg (show ¬ tC (i + 1) x y by unfold tC at *; omega)]
theorem tR_s {i : Nat} (h : i + 1 < 20) (R : RF2) {R1 R2 R3 R4 R5 : RF2} (h1 : R1 = m2 (m2 (tR i R) (i + 1) 0 (fun _ => none)) (i + 1) 1 (fun _ => none)) (h2 : R2 = m2 (m2 R1 (i + 1) 0 (m1 (R1 (i + 1) 0) 4 (some (i + 1, 1)))) (i + 1) 2 (fun _ => none)) (h3 : R3 = m2 (m2 R2 (i + 1) 0 (m1 (R2 (i + 1) 0) 5 (some (i + 1, 2)))) (i + 1) 3 (fun _ => none)) (h4 : R4 = m2 (m2 R3 (i + 1) 0 (m1 (R3 (i + 1) 0) 6 (some (i + 1, 3)))) (i + 1) 4 (fun _ => none)) (h5 : R5 = m2 R4 (i + 1) 0 (m1 (R4 (i + 1) 0) 8 (some (i + 1, 4)))) : m2 R5 0 14 (m1 (R5 0 14) i (some (i + 1, 0))) = tR (i + 1) R := by
  have a1 : R1 (i + 1) 0 = fun _ => none := by rw [h1, m2_ne _ _ (by omega), m2_at]
  have a2 : R2 (i + 1) 0 = m1 (fun _ => none) 4 (some (i + 1, 1)) := by rw [h2, m2_ne _ _ (by omega), m2_at, a1]
  have a3 : R3 (i + 1) 0 = m1 (m1 (fun _ => none) 4 (some (i + 1, 1))) 5 (some (i + 1, 2)) := by rw [h3, m2_ne _ _ (by omega), m2_at, a2]
  have a4 : R4 (i + 1) 0 = m1 (m1 (m1 (fun _ => none) 4 (some (i + 1, 1))) 5 (some (i + 1, 2))) 6 (some (i + 1, 3)) := by rw [h4, m2_ne _ _ (by omega), m2_at, a3]
  have a5 : R5 (i + 1) 0 = tabR (i + 1) := by rw [h5, m2_at, a4]; rfl
  have oth : ∀ x y, ¬ (x = i + 1 ∧ y < 5) → R5 x y = tR i R x y := fun x y hn => by
    rw [h5, m2_ne _ _ (by omega), h4, m2_ne _ _ (by omega), m2_ne _ _ (by omega), h3, m2_ne _ _ (by omega), m2_ne _ _ (by omega), h2, m2_ne _ _ (by omega), m2_ne _ _ (by omega), h1, m2_ne _ _ (by omega), m2_ne _ _ (by omega)]
  funext x y
  by_cases z : x = i + 1 ∧ y < 5
  · rw [m2_ne _ _ (by omega)]
    have e : tR (i + 1) R x y = (if y = 0 then tabR x else fun _ => none) := if_pos (by unfold tC; omega)
    rw [e]
    rcases z with ⟨rfl, hy⟩
    match y, hy with
    | 0, _ => rw [a5, if_pos rfl]
    | 1, _ => rw [if_neg (by omega), h5, m2_ne _ _ (by omega), h4, m2_ne _ _ (by omega), m2_ne _ _ (by omega), h3, m2_ne _ _ (by omega), m2_ne _ _ (by omega), h2, m2_ne _ _ (by omega), m2_ne _ _ (by omega), h1, m2_at]
    | 2, _ => rw [if_neg (by omega), h5, m2_ne _ _ (by omega), h4, m2_ne _ _ (by omega), m2_ne _ _ (by omega), h3, m2_ne _ _ (by omega), m2_ne _ _ (by omega), h2, m2_at]
    | 3, _ => rw [if_neg (by omega), h5, m2_ne _ _ (by omega), h4, m2_ne _ _ (by omega), m2_ne _ _ (by omega), h3, m2_at]
    | 4, _ => rw [if_neg (by omega), h5, m2_ne _ _ (by omega), h4, m2_at]
  · by_cases w : x = 0 ∧ y = 14
    · obtain ⟨rfl, rfl⟩ := w
      rw [m2_at, oth 0 14 (by omega)]
      unfold tR
      rw [if_neg (show ¬ tC i 0 14 by unfold tC; omega), if_neg (show ¬ tC (i + 1) 0 14 by unfold tC; omega), if_pos (show (0 : Nat) = 0 ∧ (14 : Nat) = 14 from ⟨rfl, rfl⟩), if_pos (show (0 : Nat) = 0 ∧ (14 : Nat) = 14 from ⟨rfl, rfl⟩)]
      funext f
      by_cases e : f = i
      · subst e; rw [m1_at, if_pos (by omega)]
      · rw [m1_nat _ _ e]
        by_cases g : f < i
        · rw [if_pos g, if_pos (by omega)]
        · rw [if_neg g, if_neg (by omega)]
    · rw [m2_ne _ _ w, oth x y z]
      unfold tR
      by_cases g : tC i x y
      · rw [if_pos g, if_pos (show tC (i + 1) x y by unfold tC at *; omega)]
      · rw [if_neg g, if_neg (show ¬ tC (i + 1) x y by unfold tC at *; omega), if_neg w, if_neg w]
theorem tA_n {i c : Nat} (A : AF) (hA : ∀ l c, A (l + 1) c = false) (j : Nat) (hj : i ≤ j) : tA i A (j + 1) c = false := by
  unfold tA
  rw [if_neg (by unfold tC; omega)]; exact hA j c
theorem tA_o {i x y : Nat} {A : AF} (h : A x y = true) : tA i A x y = true := by
  unfold tA
  by_cases z : tC i x y
  · rw [if_pos z]
  · rw [if_neg z]; exact h
theorem tK_o {i n y : Nat} {K : KF} : tK i n K 0 y = K 0 y := if_neg (by unfold tC; omega)
theorem i_tables {nL nB : Nat} {A : AF} {K : KF} {I : IF} {R : RF2} {Kn : Ly → Mm → Prop} (hnL : nL ≤ 8) (hnB : nB ≤ 256) (hA : ∀ l c, A (l + 1) c = false) (a13 : A 0 13 = true) (k13 : (K 0 13).1 = 9) (a10 : A 0 10 = true) (k10 : (K 0 10).1 = 3) (a14 : A 0 14 = true) (k14 : K 0 14 = (104, nL + 1)) (a11 : A 0 11 = true) (k11 : K 0 11 = (100, nB * 1024)) (r13 : R 0 13 1 = some (0, 14)) (r10 : R 0 10 0 = some (0, 11)) (v0 v1 : Nat) :
    ∀ m i Y M Y18 q, i + m = nL + 1 → q 0 13 = v0 → q 0 10 = v1 → Em Y M q (tA i A) (tK i (nB * 1024 / 61) K) (tI i I) (tR i R) → (∀ q' Y' M', q' 0 13 = v0 → q' 0 10 = v1 → (∀ x y, A x y = true → q' x y = q x y) → Em Y' M' q' (tA (nL + 1) A) (tK (nL + 1) (nB * 1024 / 61) K) (tI (nL + 1) I) (tR (nL + 1) R) → ∀ again, L_X9_init_47 Y18 v0 v1 (nI nL) Kn (nI (nL + 1)) Y' M' again) → LOOP3 (L_X9_init_47 Y18 v0 v1 (nI nL) Kn) (m + 1) (nI i) Y M
  | 0, i, Y, M, Y18, q, hi, h13, h10, E, hfin => by
    have ei : i = nL + 1 := by omega
    subst ei
    exact hfin q Y M h13 h10 (fun _ _ _ => rfl) E _
  | m + 1, i, Y, M, Y18, q, hi, h13, h10, E, hfin => by
    show L_X9_init_47 Y18 v0 v1 (nI nL) Kn (nI i) Y M (LOOP3 (L_X9_init_47 Y18 v0 v1 (nI nL) Kn) (m + 1))
    unfold L_X9_init_47
    refine ⟨fun c => absurd c (by rw [nI_ltI (by omega) (by omega)]; omega), fun _ => ?_⟩
    have na : ∀ c, tA i A (i + 1) c = false := fun c => tA_n A hA i (Nat.le_refl _)
    refine ⟨by rw [← h13]; exact Em_k E 0 13 (tA_o a13) (by rw [tK_o]; exact k13), q 0 14, by rw [← h13]; exact Em_r E 0 13 1 0 14 (tA_o a13) (by unfold tR; rw [if_neg (by unfold tC; omega), if_neg (by omega)]; exact r13), ?_⟩
    refine nw E (i + 1) 0 (na 0) (by decide) (fun q1 Y1 M1 k1 E1 => ?_)
    have hb1 : ∀ x y, A x y = true → m2 (tA i A) (i + 1) 0 true x y = true := fun x y hx => by
      unfold m2
      by_cases z : x = i + 1 ∧ y = 0
      · rw [if_pos z]
      · rw [if_neg z]; exact tA_o hx
    have q1o : ∀ x y, A x y = true → q1 x y = q x y := fun x y hx => k1 x y (tA_o hx)
    rw [← q1o 0 14 a14]
    have e10 : v1 = q1 0 10 := by rw [q1o 0 10 a10, h10]
    have K1 : ∀ y, m2 (tK i (nB * 1024 / 61) K) (i + 1) 0 (8, 0) 0 y = K 0 y := fun y => by rw [m2_ne _ _ (by omega), tK_o]
    have R1o : ∀ y f, y ≠ 14 → m2 (tR i R) (i + 1) 0 (fun _ => none) 0 y f = R 0 y f := fun y f hy => by
      rw [m2_ne _ _ (by omega)]; unfold tR; rw [if_neg (by unfold tC; omega), if_neg (by omega)]
    refine ⟨by rw [e10]; exact Em_k E1 0 10 (hb1 0 10 a10) (by rw [K1]; exact k10), q1 0 11, by rw [e10]; exact Em_r E1 0 10 0 0 11 (hb1 0 10 a10) (by rw [R1o 10 0 (by decide)]; exact r10), Em_k E1 0 11 (hb1 0 11 a11) (by rw [K1, k11]), ?_⟩
    rw [Em_n E1 0 11 (hb1 0 11 a11) (by rw [K1, k11]), show (61 : Int32) = nI 61 from rfl, pk_div (by omega) (by decide) (by decide), show (1 : Int32) + nI i = nI (i + 1) from by rw [show (1 : Int32) = nI 1 from rfl, nI_add, Nat.add_comm]]
    unfold f_X8_init
    have c0 : ∀ {B : AF} {b : Bool} {y : Nat}, m2 B (i + 1) y b (i + 1) y = b := fun {B b y} => m2_at _ _ _ _
    refine nw E1 (i + 1) 1 (by rw [m2_ne _ _ (by omega)]; exact na 1) (by decide) (fun q2 Y2 M2 k2 E2 => ?_)
    rw [← k2 (i + 1) 0 (m2_at _ _ _ _)]
    refine ⟨Em_k E2 (i + 1) 0 (by rw [m2_ne _ _ (by omega), m2_at]) (by rw [m2_ne _ _ (by omega), m2_at]), fun M5 e5 => ?_⟩
    have E5 := Em_R E2 (i + 1) 0 (i + 1) 1 e5 (by rw [m2_ne _ _ (by omega), m2_at]) (m2_at _ _ _ _)
    refine nw E5 (i + 1) 2 (by rw [m2_ne _ _ (by omega), m2_ne _ _ (by omega)]; exact na 2) (by decide) (fun q3 Y3 M3 k3 E3 => ?_)
    rw [← k3 (i + 1) 0 (by rw [m2_ne _ _ (by omega), m2_at])]
    refine ⟨Em_k E3 (i + 1) 0 (by rw [m2_ne _ _ (by omega), m2_ne _ _ (by omega), m2_at]) (by rw [m2_ne _ _ (by omega), m2_ne _ _ (by omega), m2_at]), fun M6 e6 => ?_⟩
    have E6 := Em_R E3 (i + 1) 0 (i + 1) 2 e6 (by rw [m2_ne _ _ (by omega), m2_ne _ _ (by omega), m2_at]) (m2_at _ _ _ _)
    refine nw E6 (i + 1) 3 (by rw [m2_ne _ _ (by omega), m2_ne _ _ (by omega), m2_ne _ _ (by omega)]; exact na 3) (by decide) (fun q4 Y4 M4 k4 E4 => ?_)
    rw [← k4 (i + 1) 0 (by rw [m2_ne _ _ (by omega), m2_ne _ _ (by omega), m2_at])]
    refine ⟨Em_k E4 (i + 1) 0 (by rw [m2_ne _ _ (by omega), m2_ne _ _ (by omega), m2_ne _ _ (by omega), m2_at]) (by rw [m2_ne _ _ (by omega), m2_ne _ _ (by omega), m2_ne _ _ (by omega), m2_at]), fun M7 e7 M8 e8 => ?_⟩
    have E7 := Em_R E4 (i + 1) 0 (i + 1) 3 e7 (by rw [m2_ne _ _ (by omega), m2_ne _ _ (by omega), m2_ne _ _ (by omega), m2_at]) (m2_at _ _ _ _)
    have E8 := Em_I E7 (i + 1) 0 e8 (by rw [m2_ne _ _ (by omega), m2_ne _ _ (by omega), m2_ne _ _ (by omega), m2_at])
    refine ⟨nI_pos (by omega), by rw [nI_clamp (by omega)]; omega, ?_⟩
    rw [nI_clamp (by omega)]
    refine nw E8 (i + 1) 4 (by rw [m2_ne _ _ (by omega), m2_ne _ _ (by omega), m2_ne _ _ (by omega), m2_ne _ _ (by omega)]; exact na 4) (by decide) (fun q5 Y5 M9 k5 E9 => ?_)
    rw [← k5 (i + 1) 0 (by rw [m2_ne _ _ (by omega), m2_ne _ _ (by omega), m2_ne _ _ (by omega), m2_at])]
    have a50 : m2 (m2 (m2 (m2 (m2 (tA i A) (i + 1) 0 true) (i + 1) 1 true) (i + 1) 2 true) (i + 1) 3 true) (i + 1) 4 true (i + 1) 0 = true := by rw [m2_ne _ _ (by omega), m2_ne _ _ (by omega), m2_ne _ _ (by omega), m2_ne _ _ (by omega), m2_at]
    refine ⟨Em_k E9 (i + 1) 0 a50 (by rw [m2_ne _ _ (by omega), m2_ne _ _ (by omega), m2_ne _ _ (by omega), m2_ne _ _ (by omega), m2_at]), fun M10 e10 => ?_⟩
    have E10 := Em_R E9 (i + 1) 0 (i + 1) 4 e10 a50 (m2_at _ _ _ _)
    have up2 : ∀ x y, A x y = true → m2 (m2 (tA i A) (i + 1) 0 true) (i + 1) 1 true x y = true := fun x y hx => by
      unfold m2 at hb1 ⊢
      by_cases z : x = i + 1 ∧ y = 1
      · rw [if_pos z]
      · rw [if_neg z]; exact hb1 x y hx
    have up3 : ∀ x y, A x y = true → m2 (m2 (m2 (tA i A) (i + 1) 0 true) (i + 1) 1 true) (i + 1) 2 true x y = true := fun x y hx => by
      by_cases z : x = i + 1 ∧ y = 2
      · rw [z.1, z.2, m2_at]
      · rw [m2_ne _ _ z]; exact up2 x y hx
    have up4 : ∀ x y, A x y = true → m2 (m2 (m2 (m2 (tA i A) (i + 1) 0 true) (i + 1) 1 true) (i + 1) 2 true) (i + 1) 3 true x y = true := fun x y hx => by
      by_cases z : x = i + 1 ∧ y = 3
      · rw [z.1, z.2, m2_at]
      · rw [m2_ne _ _ z]; exact up3 x y hx
    have up5 : ∀ x y, A x y = true → m2 (m2 (m2 (m2 (m2 (tA i A) (i + 1) 0 true) (i + 1) 1 true) (i + 1) 2 true) (i + 1) 3 true) (i + 1) 4 true x y = true := fun x y hx => by
      by_cases z : x = i + 1 ∧ y = 4
      · rw [z.1, z.2, m2_at]
      · rw [m2_ne _ _ z]; exact up4 x y hx
    have q5o : ∀ x y, A x y = true → q5 x y = q x y := fun x y hx => by
      rw [k5 x y (up4 x y hx), k4 x y (up3 x y hx), k3 x y (up2 x y hx), k2 x y (hb1 x y hx)]; exact q1o x y hx
    have e14 : q1 0 14 = q5 0 14 := by rw [q1o 0 14 a14, q5o 0 14 a14]
    rw [e14]
    have k5o : ∀ y, m2 (m2 (m2 (m2 (m2 (tK i (nB * 1024 / 61) K) (i + 1) 0 (8, 0)) (i + 1) 1 (101, 60)) (i + 1) 2 (101, 60)) (i + 1) 3 (101, 60)) (i + 1) 4 (101, nB * 1024 / 61) 0 y = K 0 y := fun y => by rw [m2_ne _ _ (by omega), m2_ne _ _ (by omega), m2_ne _ _ (by omega), m2_ne _ _ (by omega), m2_ne _ _ (by omega), tK_o]
    refine ⟨Em_k E10 0 14 (up5 0 14 a14) (by rw [k5o, k14]), Em_k E10 (i + 1) 0 a50 (by rw [m2_ne _ _ (by omega), m2_ne _ _ (by omega), m2_ne _ _ (by omega), m2_ne _ _ (by omega), m2_at]), ?_, fun M12 e12 x53 e53 => ?_⟩
    · rw [Em_n E10 0 14 (up5 0 14 a14) (k := nL + 1) (by rw [k5o, k14])]; exact vp_in_nI (by omega) (by omega)
    · rw [nI_clamp (by omega)] at e12
      rw [nI_1] at e53
      subst e53
      have E12 := Em_R E10 0 14 (i + 1) 0 e12 (up5 0 14 a14) a50
      rw [tA_s (by omega), tK_s (by omega), tI_s (by omega) I rfl, tR_s (by omega) R rfl rfl rfl rfl rfl] at E12
      exact i_tables hnL hnB hA a13 k13 a10 k10 a14 k14 a11 k11 r13 r10 v0 v1 m (i + 1) Y5 M12 Y18 q5 (by omega) (by rw [q5o 0 13 a13]; exact h13) (by rw [q5o 0 10 a10]; exact h10) E12 (fun q' Y' M' w1 w2 w3 w4 => hfin q' Y' M' w1 w2 (fun x y hx => by rw [w3 x y hx]; exact q5o x y hx) w4)
