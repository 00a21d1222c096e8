/-! the class is made -/
def kcF (nL nB : Nat) : Nat → Nat × Nat
  | 0 => (11, 0)
  | 1 => (100, 16384)
  | 2 => (4, 0)
  | 3 => (100, 16000)
  | 4 => (5, 0)
  | 5 => (10, 0)
  | 6 => (6, 0)
  | 7 => (100, 32768)
  | 8 => (101, 538)
  | 9 => (10, 0)
  | 10 => (3, 0)
  | 11 => (100, nB * 1024)
  | 12 => (100, 8)
  | 13 => (9, 0)
  | 14 => (104, nL + 1)
  | 15 => (100, nB)
  | 16 => (100, 500)
  | 17 => (10, 0)
  | 18 => (2, 0)
  | 19 => (10, 0)
  | 20 => (101, 2 * (nB * 1024 / 7) + 1)
  | 21 => (101, 2 * (nB * 1024 / 7) + 1)
  | 22 => (100, nB * 1024)
  | 23 => (101, 60)
  | 24 => (101, 60)
  | 25 => (101, 60)
  | 26 => (7, 0)
  | 27 => (101, 8)
  | 28 => (101, 8)
  | 29 => (101, 8)
  | 30 => (101, 8)
  | 31 => (101, 8)
  | 32 => (101, 64)
  | 33 => (100, 78)
  | _ => (0, 0)
def icF (nL W : Nat) : Nat → Nat → Int32
  | 0 => m1 (fun _ => 0) 0 (nI nL)
  | 10 => m1 (fun _ => 0) 2 (-1)
  | 13 => m1 (m1 (fun _ => 0) 2 (nI W)) 3 (nI nL + 2)
  | _ => fun _ => 0
def rkL : List (Nat × Nat × Nat) := [(0, 1, 1), (0, 3, 2), (0, 4, 4), (0, 5, 6), (0, 6, 10), (0, 7, 12), (0, 10, 13), (0, 11, 18), (0, 12, 26), (2, 0, 3), (4, 2, 5), (6, 0, 7), (6, 3, 8), (6, 5, 9), (10, 0, 11), (13, 0, 10), (13, 1, 14), (13, 4, 15), (13, 5, 16), (13, 6, 17), (18, 0, 13), (18, 1, 11), (18, 2, 19), (18, 3, 20), (18, 4, 21), (18, 6, 22), (18, 10, 23), (18, 11, 24), (18, 12, 25), (26, 1, 27), (26, 2, 28), (26, 3, 29), (26, 4, 30), (26, 5, 31), (26, 6, 32), (26, 7, 13), (26, 8, 33)]
def CSp (nL W nB : Nat) (A : AF) (K : KF) (I : IF) (R : RF2) : Prop := (∀ b, b < 34 → A 0 b = true ∧ K 0 b = kcF nL nB b ∧ I 0 b = icF nL W b) ∧ (∀ x, x ∈ rkL → R 0 x.1 x.2.1 = some (0, x.2.2)) ∧ (∀ l, l ≤ nL → R 0 14 l = some (l + 1, 0) ∧ R (l + 1) 0 = tabR (l + 1) ∧ ∀ c, c < 5 → A (l + 1) c = true ∧ K (l + 1) c = (if c = 0 then (8, 0) else if c = 4 then (101, nB * 1024 / 61) else (101, 60)) ∧ I (l + 1) c = (if c = 0 then m1 (fun _ => 0) 0 (nI (l + 1)) else fun _ => 0)) ∧ ∀ x y, 20 ≤ x → A x y = false
theorem i_tab0 {nL nB : Nat} {A : AF} {K : KF} {I : IF} {R : RF2} {Kn : Ly → Mm → Prop} {Y Y18 : Ly} {M : Mm} {q : Nat → Nat → Nat} (E : Em Y M q A K I R) (hnL : nL ≤ 8) (hnB : nB ≤ 256) (hA : ∀ l c, A (l + 1) c = false) (a13 : A 0 13 = true) (k13 : (K 0 13).1 = 9) (a10 : A 0 10 = true) (k10 : (K 0 10).1 = 3) (a14 : A 0 14 = true) (k14 : K 0 14 = (104, nL + 1)) (a11 : A 0 11 = true) (k11 : K 0 11 = (100, nB * 1024)) (r13 : R 0 13 1 = some (0, 14)) (r10 : R 0 10 0 = some (0, 11)) (hfin : ∀ q' Y' M', q' 0 13 = q 0 13 → q' 0 10 = q 0 10 → (∀ x y, A x y = true → q' x y = q x y) → Em Y' M' q' (tA (nL + 1) A) (tK (nL + 1) (nB * 1024 / 61) K) (tI (nL + 1) I) (tR (nL + 1) R) → ∀ again, L_X9_init_47 Y18 (q 0 13) (q 0 10) (nI nL) Kn (nI (nL + 1)) Y' M' again) : LOOP3 (L_X9_init_47 Y18 (q 0 13) (q 0 10) (nI nL) Kn) (nL + 1 + 1) 0 Y M :=
  i_tables hnL hnB hA a13 k13 a10 k10 a14 k14 a11 k11 r13 r10 (q 0 13) (q 0 10) (nL + 1) 0 Y M Y18 q (by omega) rfl rfl (by rw [tA_0, tK_0, tI_0, tR_0]; exact E) hfin
set_option maxRecDepth 100000 in
set_option maxHeartbeats 4000000 in
theorem i_class {nL W nB : Nat} {v1 v2 v3 : Int32} {Y : Ly} {M : Mm} {q : Nat → Nat → Nat} {Kn : Ly → Mm → Prop} (h1 : 1 ≤ nL ∧ nL ≤ 8 ∧ 1 ≤ W ∧ W ≤ 16 ∧ 32 ≤ nB ∧ nB ≤ 256) (hL : (if 1 < (if 8 < v1 then 8 else v1) then (if 8 < v1 then 8 else v1) else 1) = nI nL) (hB : (if 32 < (if 256 < v3 then 256 else v3) then (if 256 < v3 then 256 else v3) else 32) = nI nB) (hW : (if 1 < (if 16 < v2 then 16 else v2) then (if 16 < v2 then 16 else v2) else 1) = nI W) (E0 : Em Y M q (m2 A0 0 0 true) (m2 K0 0 0 (11, 0)) (m2 I0 0 0 (fun _ => 0)) (m2 R0 0 0 (fun _ => none)))
    (h : ∀ q' Y' M' A K I R, Em Y' M' q' A K I R → q' 0 0 = q 0 0 → CSp nL W nB A K I R → Kn Y' M') : f_X11_init Y (q 0 0) v1 v2 v3 M Kn := by
  unfold f_X11_init
  rw [hL, hB, hW]
  refine nw E0 0 1 rfl (by decide) (fun q1 Y1 M1 k1 E1 => ?_)
  try rw [← k1 0 0 rfl]
  refine ⟨Em_k E1 0 0 rfl rfl, ?_⟩
  intro N2 e2
  have E2 := Em_R E1 0 0 0 1 e2 rfl rfl
  refine nw E2 0 2 rfl (by decide) (fun q3 Y3 M3 k3 E3 => ?_)
  try rw [← k3 0 0 rfl]
  unfold f_X4_init
  refine nw E3 0 3 rfl (by decide) (fun q4 Y4 M4 k4 E4 => ?_)
  try rw [← k4 0 0 rfl]
  try rw [← k4 0 2 rfl]
  refine ⟨Em_k E4 0 2 rfl rfl, ?_⟩
  intro N5 e5
  have E5 := Em_R E4 0 2 0 3 e5 rfl rfl
  refine ⟨Em_k E5 0 0 rfl rfl, ?_⟩
  intro N6 e6
  have E6 := Em_R E5 0 0 0 2 e6 rfl rfl
  refine nw E6 0 4 rfl (by decide) (fun q7 Y7 M7 k7 E7 => ?_)
  try rw [← k7 0 0 rfl]
  unfold f_X5_init f_X10_init
  refine nw E7 0 5 rfl (by decide) (fun q8 Y8 M8 k8 E8 => ?_)
  try rw [← k8 0 0 rfl]
  try rw [← k8 0 4 rfl]
  refine ⟨Em_k E8 0 4 rfl rfl, ?_⟩
  intro N9 e9
  have E9 := Em_R E8 0 4 0 5 e9 rfl rfl
  refine ⟨Em_k E9 0 0 rfl rfl, ?_⟩
  intro N10 e10
  have E10 := Em_R E9 0 0 0 4 e10 rfl rfl
  refine nw E10 0 6 rfl (by decide) (fun q11 Y11 M11 k11 E11 => ?_)
  try rw [← k11 0 0 rfl]
  unfold f_X6_init f_X10_init
  refine nw E11 0 7 rfl (by decide) (fun q12 Y12 M12 k12 E12 => ?_)
  try rw [← k12 0 0 rfl]
  try rw [← k12 0 6 rfl]
  refine ⟨Em_k E12 0 6 rfl rfl, ?_⟩
  intro N13 e13
  have E13 := Em_R E12 0 6 0 7 e13 rfl rfl
  refine nw E13 0 8 rfl (by decide) (fun q14 Y14 M14 k14 E14 => ?_)
  try rw [← k14 0 0 rfl]
  try rw [← k14 0 6 rfl]
  refine ⟨Em_k E14 0 6 rfl rfl, ?_⟩
  intro N15 e15
  have E15 := Em_R E14 0 6 0 8 e15 rfl rfl
  refine nw E15 0 9 rfl (by decide) (fun q16 Y16 M16 k16 E16 => ?_)
  try rw [← k16 0 0 rfl]
  try rw [← k16 0 6 rfl]
  refine ⟨Em_k E16 0 6 rfl rfl, ?_⟩
  intro N17 e17
  have E17 := Em_R E16 0 6 0 9 e17 rfl rfl
  refine ⟨Em_k E17 0 0 rfl rfl, ?_⟩
  intro N18 e18
  have E18 := Em_R E17 0 0 0 6 e18 rfl rfl
  refine nw E18 0 12 rfl (by decide) (fun q19 Y19 M19 k19 E19 => ?_)
  try rw [← k19 0 0 rfl]
  refine ⟨Em_k E19 0 0 rfl rfl, ?_⟩
  intro N20 e20
  have E20 := Em_R E19 0 0 0 12 e20 rfl rfl
  intro x32 e32
  subst e32
  refine nw E20 0 10 rfl (by decide) (fun q21 Y21 M21 k21 E21 => ?_)
  try rw [← k21 0 0 rfl]
  unfold f_X3_init
  refine ⟨Em_k E21 0 10 rfl rfl, ?_⟩
  intro N22 e22
  have E22 := Em_I E21 0 10 e22 rfl
  rw [show (1024 : Int32) = nI 1024 from rfl, pk_mul, nI_clamp (by omega)]
  refine ⟨nI_pos (by omega), by omega, ?_⟩
  refine nw E22 0 11 rfl (by decide) (fun q23 Y23 M23 k23 E23 => ?_)
  try rw [← k23 0 0 rfl]
  try rw [← k23 0 10 rfl]
  refine ⟨Em_k E23 0 10 rfl rfl, ?_⟩
  intro N24 e24
  have E24 := Em_R E23 0 10 0 11 e24 rfl rfl
  refine nw E24 0 13 rfl (by decide) (fun q25 Y25 M25 k25 E25 => ?_)
  try rw [← k25 0 0 rfl]
  try rw [← k25 0 10 rfl]
  unfold f_X9_init f_X10_init
  refine nw E25 0 16 rfl (by decide) (fun q26 Y26 M26 k26 E26 => ?_)
  try rw [← k26 0 0 rfl]
  try rw [← k26 0 10 rfl]
  try rw [← k26 0 13 rfl]
  refine ⟨Em_k E26 0 13 rfl rfl, ?_⟩
  intro N27 e27
  have E27 := Em_R E26 0 13 0 16 e27 rfl rfl
  refine nw E27 0 17 rfl (by decide) (fun q28 Y28 M28 k28 E28 => ?_)
  try rw [← k28 0 0 rfl]
  try rw [← k28 0 10 rfl]
  try rw [← k28 0 13 rfl]
  refine ⟨Em_k E28 0 13 rfl rfl, ?_⟩
  intro N29 e29
  have E29 := Em_R E28 0 13 0 17 e29 rfl rfl
  intro N30 e30
  have E30 := Em_R E29 0 13 0 10 e30 rfl rfl
  intro N31 e31
  have E31 := Em_I E30 0 13 e31 rfl
  rw [nI_1, nI_clamp (by omega)]
  refine ⟨nI_pos (by omega), by omega, ?_⟩
  refine nw E31 0 14 rfl (by decide) (fun q32 Y32 M32 k32 E32 => ?_)
  try rw [← k32 0 0 rfl]
  try rw [← k32 0 10 rfl]
  try rw [← k32 0 13 rfl]
  refine ⟨Em_k E32 0 13 rfl rfl, ?_⟩
  intro N33 e33
  have E33 := Em_R E32 0 13 0 14 e33 rfl rfl
  refine ⟨nL + 1 + 1, by omega, i_tab0 (nB := nB) E33 (by omega) (by omega) (fun l c => by simp [m2, A0]) rfl rfl rfl rfl rfl rfl rfl rfl rfl rfl (fun q34 Y34 M34 w13 w10 k34 E34 ag => ?_)⟩
  unfold L_X9_init_47
  refine ⟨fun _ => ?_, fun c => absurd (by rw [nI_ltI (by omega) (by omega)]; omega) c⟩
  try rw [← k34 0 0 rfl]
  try rw [← k34 0 10 rfl]
  try rw [← k34 0 13 rfl]
  refine ⟨Em_k E34 0 13 rfl rfl, ?_⟩
  intro N35 e35
  have E35 := Em_I E34 0 13 e35 rfl
  refine ⟨Em_k E35 0 10 rfl rfl, ?_⟩
  unfold f_X3_blocks
  refine ⟨Em_k E35 0 10 rfl rfl, _, Em_r E35 0 10 0 0 11 rfl rfl, Em_k E35 0 11 rfl rfl, ?_⟩
  rw [Em_n E35 0 11 (k := nB * 1024) rfl rfl, show (1024 : Int32) = nI 1024 from rfl, pk_div (by omega) (by decide) (by decide), Nat.mul_div_cancel _ (by decide)]
  dsimp only
  rw [nI_clamp (by omega)]
  refine ⟨nI_pos (by omega), by omega, ?_⟩
  refine nw E35 0 15 rfl (by decide) (fun q36 Y36 M36 k36 E36 => ?_)
  try rw [← k36 0 0 rfl]
  try rw [← k36 0 10 rfl]
  try rw [← k36 0 13 rfl]
  refine ⟨Em_k E36 0 13 rfl rfl, ?_⟩
  intro N37 e37
  have E37 := Em_R E36 0 13 0 15 e37 rfl rfl
  refine ⟨Em_k E37 0 0 rfl rfl, ?_⟩
  intro N38 e38
  have E38 := Em_I E37 0 0 e38 rfl
  intro N39 e39
  have E39 := Em_R E38 0 0 0 10 e39 rfl rfl
  intro N40 e40
  have E40 := Em_R E39 0 0 0 13 e40 rfl rfl
  refine nw E40 0 18 rfl (by decide) (fun q41 Y41 M41 k41 E41 => ?_)
  try rw [← k41 0 0 rfl]
  try rw [← k41 0 10 rfl]
  try rw [← k41 0 13 rfl]
  unfold f_X2_init f_X10_init
  refine nw E41 0 19 rfl (by decide) (fun q42 Y42 M42 k42 E42 => ?_)
  try rw [← k42 0 0 rfl]
  try rw [← k42 0 10 rfl]
  try rw [← k42 0 13 rfl]
  try rw [← k42 0 18 rfl]
  refine ⟨Em_k E42 0 18 rfl rfl, ?_⟩
  intro N43 e43
  have E43 := Em_R E42 0 18 0 19 e43 rfl rfl
  refine nw E43 0 23 rfl (by decide) (fun q44 Y44 M44 k44 E44 => ?_)
  try rw [← k44 0 0 rfl]
  try rw [← k44 0 10 rfl]
  try rw [← k44 0 13 rfl]
  try rw [← k44 0 18 rfl]
  refine ⟨Em_k E44 0 18 rfl rfl, ?_⟩
  intro N45 e45
  have E45 := Em_R E44 0 18 0 23 e45 rfl rfl
  refine nw E45 0 24 rfl (by decide) (fun q46 Y46 M46 k46 E46 => ?_)
  try rw [← k46 0 0 rfl]
  try rw [← k46 0 10 rfl]
  try rw [← k46 0 13 rfl]
  try rw [← k46 0 18 rfl]
  refine ⟨Em_k E46 0 18 rfl rfl, ?_⟩
  intro N47 e47
  have E47 := Em_R E46 0 18 0 24 e47 rfl rfl
  refine nw E47 0 25 rfl (by decide) (fun q48 Y48 M48 k48 E48 => ?_)
  try rw [← k48 0 0 rfl]
  try rw [← k48 0 10 rfl]
  try rw [← k48 0 13 rfl]
  try rw [← k48 0 18 rfl]
  refine ⟨Em_k E48 0 18 rfl rfl, ?_⟩
  intro N49 e49
  have E49 := Em_R E48 0 18 0 25 e49 rfl rfl
  intro N50 e50
  have E50 := Em_R E49 0 18 0 13 e50 rfl rfl
  refine ⟨Em_k E50 0 13 rfl rfl, _, Em_r E50 0 13 0 0 10 rfl rfl, Em_k E50 0 10 rfl rfl, _, Em_r E50 0 10 0 0 11 rfl rfl, ?_⟩
  intro N51 e51
  have E51 := Em_R E50 0 18 0 11 e51 rfl rfl
  refine ⟨_, Em_r E51 0 18 1 0 11 rfl rfl, Em_k E51 0 11 rfl rfl, ?_⟩
  rw [Em_n E51 0 11 (k := nB * 1024) rfl rfl, show (7 : Int32) = nI 7 from rfl, pk_div (by omega) (by decide) (by decide), show (2 : Int32) * nI (nB * 1024 / 7) + 1 = nI (2 * (nB * 1024 / 7) + 1) from by rw [show (2 : Int32) = nI 2 from rfl, pk_mul, nI_1]]
  intro x32 e32
  subst e32
  rw [nI_clamp (by omega)]
  refine ⟨nI_pos (by omega), by omega, ?_⟩
  refine nw E51 0 20 rfl (by decide) (fun q52 Y52 M52 k52 E52 => ?_)
  try rw [← k52 0 0 rfl]
  try rw [← k52 0 10 rfl]
  try rw [← k52 0 13 rfl]
  try rw [← k52 0 18 rfl]
  refine ⟨Em_k E52 0 18 rfl rfl, ?_⟩
  intro N53 e53
  have E53 := Em_R E52 0 18 0 20 e53 rfl rfl
  refine ⟨nI_pos (by omega), by omega, ?_⟩
  refine nw E53 0 21 rfl (by decide) (fun q54 Y54 M54 k54 E54 => ?_)
  try rw [← k54 0 0 rfl]
  try rw [← k54 0 10 rfl]
  try rw [← k54 0 13 rfl]
  try rw [← k54 0 18 rfl]
  refine ⟨Em_k E54 0 18 rfl rfl, ?_⟩
  intro N55 e55
  have E55 := Em_R E54 0 18 0 21 e55 rfl rfl
  refine ⟨_, Em_r E55 0 18 1 0 11 rfl rfl, Em_k E55 0 11 rfl rfl, ?_⟩
  rw [Em_n E55 0 11 (k := nB * 1024) rfl rfl, nI_clamp (by omega)]
  refine ⟨nI_pos (by omega), by omega, ?_⟩
  refine nw E55 0 22 rfl (by decide) (fun q56 Y56 M56 k56 E56 => ?_)
  try rw [← k56 0 0 rfl]
  try rw [← k56 0 10 rfl]
  try rw [← k56 0 13 rfl]
  try rw [← k56 0 18 rfl]
  refine ⟨Em_k E56 0 18 rfl rfl, ?_⟩
  intro N57 e57
  have E57 := Em_R E56 0 18 0 22 e57 rfl rfl
  refine ⟨Em_k E57 0 0 rfl rfl, ?_⟩
  intro N58 e58
  have E58 := Em_R E57 0 0 0 18 e58 rfl rfl
  refine nw E58 0 26 rfl (by decide) (fun q59 Y59 M59 k59 E59 => ?_)
  try rw [← k59 0 0 rfl]
  try rw [← k59 0 10 rfl]
  try rw [← k59 0 13 rfl]
  unfold f_X7_init
  refine nw E59 0 27 rfl (by decide) (fun q60 Y60 M60 k60 E60 => ?_)
  try rw [← k60 0 0 rfl]
  try rw [← k60 0 10 rfl]
  try rw [← k60 0 13 rfl]
  try rw [← k60 0 26 rfl]
  refine ⟨Em_k E60 0 26 rfl rfl, ?_⟩
  intro N61 e61
  have E61 := Em_R E60 0 26 0 27 e61 rfl rfl
  refine nw E61 0 28 rfl (by decide) (fun q62 Y62 M62 k62 E62 => ?_)
  try rw [← k62 0 0 rfl]
  try rw [← k62 0 10 rfl]
  try rw [← k62 0 13 rfl]
  try rw [← k62 0 26 rfl]
  refine ⟨Em_k E62 0 26 rfl rfl, ?_⟩
  intro N63 e63
  have E63 := Em_R E62 0 26 0 28 e63 rfl rfl
  refine nw E63 0 29 rfl (by decide) (fun q64 Y64 M64 k64 E64 => ?_)
  try rw [← k64 0 0 rfl]
  try rw [← k64 0 10 rfl]
  try rw [← k64 0 13 rfl]
  try rw [← k64 0 26 rfl]
  refine ⟨Em_k E64 0 26 rfl rfl, ?_⟩
  intro N65 e65
  have E65 := Em_R E64 0 26 0 29 e65 rfl rfl
  refine nw E65 0 30 rfl (by decide) (fun q66 Y66 M66 k66 E66 => ?_)
  try rw [← k66 0 0 rfl]
  try rw [← k66 0 10 rfl]
  try rw [← k66 0 13 rfl]
  try rw [← k66 0 26 rfl]
  refine ⟨Em_k E66 0 26 rfl rfl, ?_⟩
  intro N67 e67
  have E67 := Em_R E66 0 26 0 30 e67 rfl rfl
  refine nw E67 0 31 rfl (by decide) (fun q68 Y68 M68 k68 E68 => ?_)
  try rw [← k68 0 0 rfl]
  try rw [← k68 0 10 rfl]
  try rw [← k68 0 13 rfl]
  try rw [← k68 0 26 rfl]
  refine ⟨Em_k E68 0 26 rfl rfl, ?_⟩
  intro N69 e69
  have E69 := Em_R E68 0 26 0 31 e69 rfl rfl
  refine nw E69 0 32 rfl (by decide) (fun q70 Y70 M70 k70 E70 => ?_)
  try rw [← k70 0 0 rfl]
  try rw [← k70 0 10 rfl]
  try rw [← k70 0 13 rfl]
  try rw [← k70 0 26 rfl]
  refine ⟨Em_k E70 0 26 rfl rfl, ?_⟩
  intro N71 e71
  have E71 := Em_R E70 0 26 0 32 e71 rfl rfl
  refine nw E71 0 33 rfl (by decide) (fun q72 Y72 M72 k72 E72 => ?_)
  try rw [← k72 0 0 rfl]
  try rw [← k72 0 10 rfl]
  try rw [← k72 0 13 rfl]
  try rw [← k72 0 26 rfl]
  refine ⟨Em_k E72 0 26 rfl rfl, ?_⟩
  intro N73 e73
  have E73 := Em_R E72 0 26 0 33 e73 rfl rfl
  intro N74 e74
  have E74 := Em_R E73 0 26 0 13 e74 rfl rfl
  refine ⟨Em_k E74 0 0 rfl rfl, ?_⟩
  intro N75 e75
  have E75 := Em_R E74 0 0 0 26 e75 rfl rfl
  refine h q72 _ _ _ _ _ _ E75 ?_ ?_
  · rw [k72 0 0 rfl, k70 0 0 rfl, k68 0 0 rfl, k66 0 0 rfl, k64 0 0 rfl, k62 0 0 rfl, k60 0 0 rfl, k59 0 0 rfl, k56 0 0 rfl, k54 0 0 rfl, k52 0 0 rfl, k48 0 0 rfl, k46 0 0 rfl, k44 0 0 rfl, k42 0 0 rfl, k41 0 0 rfl, k36 0 0 rfl, k34 0 0 rfl, k32 0 0 rfl, k28 0 0 rfl, k26 0 0 rfl, k25 0 0 rfl, k23 0 0 rfl, k21 0 0 rfl, k19 0 0 rfl, k16 0 0 rfl, k14 0 0 rfl, k12 0 0 rfl, k11 0 0 rfl, k8 0 0 rfl, k7 0 0 rfl, k4 0 0 rfl, k3 0 0 rfl, k1 0 0 rfl]
  · refine ⟨fun b hb => ?_, fun x hx => ?_, fun l hl => ?_, fun x y hx => ?_⟩
    · match b, hb with
      | 0, _ => exact ⟨rfl, rfl, rfl⟩
      | 1, _ => exact ⟨rfl, rfl, rfl⟩
      | 2, _ => exact ⟨rfl, rfl, rfl⟩
      | 3, _ => exact ⟨rfl, rfl, rfl⟩
      | 4, _ => exact ⟨rfl, rfl, rfl⟩
      | 5, _ => exact ⟨rfl, rfl, rfl⟩
      | 6, _ => exact ⟨rfl, rfl, rfl⟩
      | 7, _ => exact ⟨rfl, rfl, rfl⟩
      | 8, _ => exact ⟨rfl, rfl, rfl⟩
      | 9, _ => exact ⟨rfl, rfl, rfl⟩
      | 10, _ => exact ⟨rfl, rfl, rfl⟩
      | 11, _ => exact ⟨rfl, rfl, rfl⟩
      | 12, _ => exact ⟨rfl, rfl, rfl⟩
      | 13, _ => exact ⟨rfl, rfl, rfl⟩
      | 14, _ => exact ⟨rfl, rfl, rfl⟩
      | 15, _ => exact ⟨rfl, rfl, rfl⟩
      | 16, _ => exact ⟨rfl, rfl, rfl⟩
      | 17, _ => exact ⟨rfl, rfl, rfl⟩
      | 18, _ => exact ⟨rfl, rfl, rfl⟩
      | 19, _ => exact ⟨rfl, rfl, rfl⟩
      | 20, _ => exact ⟨rfl, rfl, rfl⟩
      | 21, _ => exact ⟨rfl, rfl, rfl⟩
      | 22, _ => exact ⟨rfl, rfl, rfl⟩
      | 23, _ => exact ⟨rfl, rfl, rfl⟩
      | 24, _ => exact ⟨rfl, rfl, rfl⟩
      | 25, _ => exact ⟨rfl, rfl, rfl⟩
      | 26, _ => exact ⟨rfl, rfl, rfl⟩
      | 27, _ => exact ⟨rfl, rfl, rfl⟩
      | 28, _ => exact ⟨rfl, rfl, rfl⟩
      | 29, _ => exact ⟨rfl, rfl, rfl⟩
      | 30, _ => exact ⟨rfl, rfl, rfl⟩
      | 31, _ => exact ⟨rfl, rfl, rfl⟩
      | 32, _ => exact ⟨rfl, rfl, rfl⟩
      | 33, _ => exact ⟨rfl, rfl, rfl⟩
      | n + 34, hb => exact absurd hb (by omega)
    · simp only [rkL, List.mem_cons, List.not_mem_nil, or_false] at hx
      rcases hx with rfl | rfl | rfl | rfl | rfl | rfl | rfl | rfl | rfl | rfl | rfl | rfl | rfl | rfl | rfl | rfl | rfl | rfl | rfl | rfl | rfl | rfl | rfl | rfl | rfl | rfl | rfl | rfl | rfl | rfl | rfl | rfl | rfl | rfl | rfl | rfl | rfl <;> rfl
    · have ht : ∀ c, c < 5 → tC (nL + 1) (l + 1) c := fun c hc => ⟨by omega, by omega, by omega, hc⟩
      refine ⟨?_, ?_, fun c hc => ⟨?_, ?_, ?_⟩⟩
      · show (if l < nL + 1 then some (l + 1, 0) else none) = some (l + 1, 0)
        exact if_pos (by omega)
      · repeat refine (m2_ne _ _ (by omega)).trans ?_
        unfold tR
        rw [if_pos (ht 0 (by decide)), if_pos rfl]
      · repeat refine (m2_ne _ _ (by omega)).trans ?_
        unfold tA
        rw [if_pos (ht c hc)]
      · repeat refine (m2_ne _ _ (by omega)).trans ?_
        unfold tK
        rw [if_pos (ht c hc)]
      · repeat refine (m2_ne _ _ (by omega)).trans ?_
        unfold tI
        rw [if_pos (ht c hc)]
    · repeat refine (m2_ne _ _ (by omega)).trans ?_
      unfold tA
      rw [if_neg (by unfold tC; omega)]
      repeat refine (m2_ne _ _ (by omega)).trans ?_
      rfl

