/-! the model is made -/
def nA (A : AF) : AF := fun x y => if x < 20 then A x y else false
def mkL : List (Nat × Nat × Nat) := [(0, 12, 0), (11, 101, 16384), (14, 102, 1000), (15, 101, 1000), (16, 102, 1000), (17, 101, 1000), (18, 101, 1000), (20, 101, 4500), (21, 101, 4500), (22, 101, 4500), (23, 101, 4500), (24, 101, 540000), (25, 101, 540000), (27, 102, 9), (28, 102, 9), (29, 101, 9), (30, 101, 540), (31, 101, 540), (32, 103, 256), (33, 101, 32768), (35, 101, 8), (36, 101, 8), (37, 101, 8), (38, 103, 64), (39, 103, 64), (40, 101, 64), (55, 101, 40000), (56, 101, 40000), (57, 101, 40000), (58, 101, 40000), (59, 101, 40000), (60, 103, 40000), (61, 101, 4096), (62, 101, 40000), (63, 101, 4500), (64, 101, 4500), (66, 101, 60), (67, 101, 60), (68, 101, 78)]
def mfL : List Nat := [10, 13, 14, 15, 16, 17, 19, 20, 21, 22, 23, 24, 26, 27, 28, 29, 30, 31, 32, 34, 35, 36, 37, 38, 39, 54, 55, 56, 57, 58, 59, 60, 61, 62, 63, 65, 66, 67]
def CSq (nL W nB : Nat) (A : AF) (K : KF) (I : IF) (R : RF2) : Prop := (∀ b, b < 34 → A 0 b = true ∧ K 0 b = kcF nL nB b ∧ I 0 b = icF nL W b) ∧ (∀ x, x ∈ rkL → R 0 x.1 x.2.1 = some (0, x.2.2)) ∧ (∀ l, l ≤ nL → R 0 14 l = some (l + 1, 0) ∧ R (l + 1) 0 = tabR (l + 1) ∧ ∀ c, c < 5 → A (l + 1) c = true ∧ K (l + 1) c = (if c = 0 then (8, 0) else if c = 4 then (101, nB * 1024 / 61) else (101, 60)) ∧ I (l + 1) c = (if c = 0 then m1 (fun _ => 0) 0 (nI (l + 1)) else fun _ => 0))
def MSq (nL W nB : Nat) (A : AF) (K : KF) (I : IF) (R : RF2) : Prop := (∀ x, x ∈ mkL → A 20 x.1 = true ∧ K 20 x.1 = x.2) ∧ (∀ f, f ∈ mfL → R 20 0 f = some (20, f + 1)) ∧ I 20 0 = m1 (m1 (m1 (m1 (fun _ => 0) 7 (-1)) 1 (nI nL)) 2 (nI W)) 3 (nI nB) ∧ ∀ f, f ∈ mfL → I 20 (f + 1) = fun _ => 0
set_option maxRecDepth 100000 in
set_option maxHeartbeats 8000000 in
theorem i_model {nL W nB : Nat} {v1 v2 v3 : Int32} {Y : Ly} {M : Mm} {q : Nat → Nat → Nat} {A : AF} {K : KF} {I : IF} {R : RF2} {Kn : Ly → Mm → Prop} (h1 : nL ≤ 8) (hc1 : ∀ P : Int32 → Prop, P (nI nL) → ((1 ≤ v1 → ((v1 ≤ 8 → P v1) ∧ (¬ (v1 ≤ 8) → P 8))) ∧ (¬ (1 ≤ v1) → P 1))) (hc2 : ∀ P : Int32 → Prop, P (nI W) → ((1 ≤ v2 → ((v2 ≤ 16 → P v2) ∧ (¬ (v2 ≤ 16) → P 16))) ∧ (¬ (1 ≤ v2) → P 1))) (hc3 : ∀ P : Int32 → Prop, P (nI nB) → ((32 ≤ v3 → ((v3 ≤ 256 → P v3) ∧ (¬ (v3 ≤ 256) → P 256))) ∧ (¬ (32 ≤ v3) → P 32))) (hcs : CSp nL W nB A K I R) (E0 : Em Y M q (m2 (nA A) 20 0 true) (m2 K 20 0 (12, 0)) (m2 I 20 0 (fun _ => 0)) (m2 R 20 0 (fun _ => none)))
    (h : ∀ q' Y' M' A K I R, Em Y' M' q' A K I R → q' 0 0 = q 0 0 → q' 20 0 = q 20 0 → CSq nL W nB A K I R → MSq nL W nB A K I R → A 21 0 = false → Kn Y' M') : f_X12_init Y (q 20 0) v1 v2 v3 M Kn := by
  have ha : nA A 0 0 = true := (hcs.1 0 (by decide)).1
  unfold f_X12_init
  refine ⟨Em_k E0 20 0 rfl rfl, ?_⟩
  intro N1 e1
  have E1 := Em_I E0 20 0 e1 rfl
  refine nw E1 20 11 rfl (by decide) (fun q2 Y2 M2 k2 E2 => ?_)
  rw [← k2 20 0 rfl]
  refine ⟨Em_k E2 20 0 rfl rfl, ?_⟩
  intro N3 e3
  have E3 := Em_R E2 20 0 20 11 e3 rfl rfl
  refine nw E3 20 14 rfl (by decide) (fun q4 Y4 M4 k4 E4 => ?_)
  rw [← k4 20 0 rfl]
  refine ⟨Em_k E4 20 0 rfl rfl, ?_⟩
  intro N5 e5
  have E5 := Em_R E4 20 0 20 14 e5 rfl rfl
  refine nw E5 20 15 rfl (by decide) (fun q6 Y6 M6 k6 E6 => ?_)
  rw [← k6 20 0 rfl]
  refine ⟨Em_k E6 20 0 rfl rfl, ?_⟩
  intro N7 e7
  have E7 := Em_R E6 20 0 20 15 e7 rfl rfl
  refine nw E7 20 16 rfl (by decide) (fun q8 Y8 M8 k8 E8 => ?_)
  rw [← k8 20 0 rfl]
  refine ⟨Em_k E8 20 0 rfl rfl, ?_⟩
  intro N9 e9
  have E9 := Em_R E8 20 0 20 16 e9 rfl rfl
  refine nw E9 20 17 rfl (by decide) (fun q10 Y10 M10 k10 E10 => ?_)
  rw [← k10 20 0 rfl]
  refine ⟨Em_k E10 20 0 rfl rfl, ?_⟩
  intro N11 e11
  have E11 := Em_R E10 20 0 20 17 e11 rfl rfl
  refine nw E11 20 18 rfl (by decide) (fun q12 Y12 M12 k12 E12 => ?_)
  rw [← k12 20 0 rfl]
  refine ⟨Em_k E12 20 0 rfl rfl, ?_⟩
  intro N13 e13
  have E13 := Em_R E12 20 0 20 18 e13 rfl rfl
  refine nw E13 20 20 rfl (by decide) (fun q14 Y14 M14 k14 E14 => ?_)
  rw [← k14 20 0 rfl]
  refine ⟨Em_k E14 20 0 rfl rfl, ?_⟩
  intro N15 e15
  have E15 := Em_R E14 20 0 20 20 e15 rfl rfl
  refine nw E15 20 21 rfl (by decide) (fun q16 Y16 M16 k16 E16 => ?_)
  rw [← k16 20 0 rfl]
  refine ⟨Em_k E16 20 0 rfl rfl, ?_⟩
  intro N17 e17
  have E17 := Em_R E16 20 0 20 21 e17 rfl rfl
  refine nw E17 20 22 rfl (by decide) (fun q18 Y18 M18 k18 E18 => ?_)
  rw [← k18 20 0 rfl]
  refine ⟨Em_k E18 20 0 rfl rfl, ?_⟩
  intro N19 e19
  have E19 := Em_R E18 20 0 20 22 e19 rfl rfl
  refine nw E19 20 23 rfl (by decide) (fun q20 Y20 M20 k20 E20 => ?_)
  rw [← k20 20 0 rfl]
  refine ⟨Em_k E20 20 0 rfl rfl, ?_⟩
  intro N21 e21
  have E21 := Em_R E20 20 0 20 23 e21 rfl rfl
  refine nw E21 20 24 rfl (by decide) (fun q22 Y22 M22 k22 E22 => ?_)
  rw [← k22 20 0 rfl]
  refine ⟨Em_k E22 20 0 rfl rfl, ?_⟩
  intro N23 e23
  have E23 := Em_R E22 20 0 20 24 e23 rfl rfl
  refine nw E23 20 25 rfl (by decide) (fun q24 Y24 M24 k24 E24 => ?_)
  rw [← k24 20 0 rfl]
  refine ⟨Em_k E24 20 0 rfl rfl, ?_⟩
  intro N25 e25
  have E25 := Em_R E24 20 0 20 25 e25 rfl rfl
  refine nw E25 20 27 rfl (by decide) (fun q26 Y26 M26 k26 E26 => ?_)
  rw [← k26 20 0 rfl]
  refine ⟨Em_k E26 20 0 rfl rfl, ?_⟩
  intro N27 e27
  have E27 := Em_R E26 20 0 20 27 e27 rfl rfl
  refine nw E27 20 28 rfl (by decide) (fun q28 Y28 M28 k28 E28 => ?_)
  rw [← k28 20 0 rfl]
  refine ⟨Em_k E28 20 0 rfl rfl, ?_⟩
  intro N29 e29
  have E29 := Em_R E28 20 0 20 28 e29 rfl rfl
  refine nw E29 20 29 rfl (by decide) (fun q30 Y30 M30 k30 E30 => ?_)
  rw [← k30 20 0 rfl]
  refine ⟨Em_k E30 20 0 rfl rfl, ?_⟩
  intro N31 e31
  have E31 := Em_R E30 20 0 20 29 e31 rfl rfl
  refine nw E31 20 30 rfl (by decide) (fun q32 Y32 M32 k32 E32 => ?_)
  rw [← k32 20 0 rfl]
  refine ⟨Em_k E32 20 0 rfl rfl, ?_⟩
  intro N33 e33
  have E33 := Em_R E32 20 0 20 30 e33 rfl rfl
  refine nw E33 20 31 rfl (by decide) (fun q34 Y34 M34 k34 E34 => ?_)
  rw [← k34 20 0 rfl]
  refine ⟨Em_k E34 20 0 rfl rfl, ?_⟩
  intro N35 e35
  have E35 := Em_R E34 20 0 20 31 e35 rfl rfl
  refine nw E35 20 32 rfl (by decide) (fun q36 Y36 M36 k36 E36 => ?_)
  rw [← k36 20 0 rfl]
  refine ⟨Em_k E36 20 0 rfl rfl, ?_⟩
  intro N37 e37
  have E37 := Em_R E36 20 0 20 32 e37 rfl rfl
  refine nw E37 20 33 rfl (by decide) (fun q38 Y38 M38 k38 E38 => ?_)
  rw [← k38 20 0 rfl]
  refine ⟨Em_k E38 20 0 rfl rfl, ?_⟩
  intro N39 e39
  have E39 := Em_R E38 20 0 20 33 e39 rfl rfl
  refine nw E39 20 35 rfl (by decide) (fun q40 Y40 M40 k40 E40 => ?_)
  rw [← k40 20 0 rfl]
  refine ⟨Em_k E40 20 0 rfl rfl, ?_⟩
  intro N41 e41
  have E41 := Em_R E40 20 0 20 35 e41 rfl rfl
  refine nw E41 20 36 rfl (by decide) (fun q42 Y42 M42 k42 E42 => ?_)
  rw [← k42 20 0 rfl]
  refine ⟨Em_k E42 20 0 rfl rfl, ?_⟩
  intro N43 e43
  have E43 := Em_R E42 20 0 20 36 e43 rfl rfl
  refine nw E43 20 37 rfl (by decide) (fun q44 Y44 M44 k44 E44 => ?_)
  rw [← k44 20 0 rfl]
  refine ⟨Em_k E44 20 0 rfl rfl, ?_⟩
  intro N45 e45
  have E45 := Em_R E44 20 0 20 37 e45 rfl rfl
  refine nw E45 20 38 rfl (by decide) (fun q46 Y46 M46 k46 E46 => ?_)
  rw [← k46 20 0 rfl]
  refine ⟨Em_k E46 20 0 rfl rfl, ?_⟩
  intro N47 e47
  have E47 := Em_R E46 20 0 20 38 e47 rfl rfl
  refine nw E47 20 39 rfl (by decide) (fun q48 Y48 M48 k48 E48 => ?_)
  rw [← k48 20 0 rfl]
  refine ⟨Em_k E48 20 0 rfl rfl, ?_⟩
  intro N49 e49
  have E49 := Em_R E48 20 0 20 39 e49 rfl rfl
  refine nw E49 20 40 rfl (by decide) (fun q50 Y50 M50 k50 E50 => ?_)
  rw [← k50 20 0 rfl]
  refine ⟨Em_k E50 20 0 rfl rfl, ?_⟩
  intro N51 e51
  have E51 := Em_R E50 20 0 20 40 e51 rfl rfl
  refine ⟨_, Em_r E51 20 0 10 20 11 rfl rfl, ?_⟩
  intro N52 e52
  have E52 := Em_R E51 20 0 20 11 e52 rfl rfl
  refine nw E52 20 55 rfl (by decide) (fun q53 Y53 M53 k53 E53 => ?_)
  rw [← k53 20 0 rfl]
  refine ⟨Em_k E53 20 0 rfl rfl, ?_⟩
  intro N54 e54
  have E54 := Em_R E53 20 0 20 55 e54 rfl rfl
  refine nw E54 20 56 rfl (by decide) (fun q55 Y55 M55 k55 E55 => ?_)
  rw [← k55 20 0 rfl]
  refine ⟨Em_k E55 20 0 rfl rfl, ?_⟩
  intro N56 e56
  have E56 := Em_R E55 20 0 20 56 e56 rfl rfl
  refine nw E56 20 57 rfl (by decide) (fun q57 Y57 M57 k57 E57 => ?_)
  rw [← k57 20 0 rfl]
  refine ⟨Em_k E57 20 0 rfl rfl, ?_⟩
  intro N58 e58
  have E58 := Em_R E57 20 0 20 57 e58 rfl rfl
  refine nw E58 20 58 rfl (by decide) (fun q59 Y59 M59 k59 E59 => ?_)
  rw [← k59 20 0 rfl]
  refine ⟨Em_k E59 20 0 rfl rfl, ?_⟩
  intro N60 e60
  have E60 := Em_R E59 20 0 20 58 e60 rfl rfl
  refine nw E60 20 59 rfl (by decide) (fun q61 Y61 M61 k61 E61 => ?_)
  rw [← k61 20 0 rfl]
  refine ⟨Em_k E61 20 0 rfl rfl, ?_⟩
  intro N62 e62
  have E62 := Em_R E61 20 0 20 59 e62 rfl rfl
  refine nw E62 20 60 rfl (by decide) (fun q63 Y63 M63 k63 E63 => ?_)
  rw [← k63 20 0 rfl]
  refine ⟨Em_k E63 20 0 rfl rfl, ?_⟩
  intro N64 e64
  have E64 := Em_R E63 20 0 20 60 e64 rfl rfl
  refine nw E64 20 61 rfl (by decide) (fun q65 Y65 M65 k65 E65 => ?_)
  rw [← k65 20 0 rfl]
  refine ⟨Em_k E65 20 0 rfl rfl, ?_⟩
  intro N66 e66
  have E66 := Em_R E65 20 0 20 61 e66 rfl rfl
  refine nw E66 20 62 rfl (by decide) (fun q67 Y67 M67 k67 E67 => ?_)
  rw [← k67 20 0 rfl]
  refine ⟨Em_k E67 20 0 rfl rfl, ?_⟩
  intro N68 e68
  have E68 := Em_R E67 20 0 20 62 e68 rfl rfl
  refine nw E68 20 63 rfl (by decide) (fun q69 Y69 M69 k69 E69 => ?_)
  rw [← k69 20 0 rfl]
  refine ⟨Em_k E69 20 0 rfl rfl, ?_⟩
  intro N70 e70
  have E70 := Em_R E69 20 0 20 63 e70 rfl rfl
  refine nw E70 20 64 rfl (by decide) (fun q71 Y71 M71 k71 E71 => ?_)
  rw [← k71 20 0 rfl]
  refine ⟨Em_k E71 20 0 rfl rfl, ?_⟩
  intro N72 e72
  have E72 := Em_R E71 20 0 20 64 e72 rfl rfl
  refine nw E72 20 66 rfl (by decide) (fun q73 Y73 M73 k73 E73 => ?_)
  rw [← k73 20 0 rfl]
  refine ⟨Em_k E73 20 0 rfl rfl, ?_⟩
  intro N74 e74
  have E74 := Em_R E73 20 0 20 66 e74 rfl rfl
  refine nw E74 20 67 rfl (by decide) (fun q75 Y75 M75 k75 E75 => ?_)
  rw [← k75 20 0 rfl]
  refine ⟨Em_k E75 20 0 rfl rfl, ?_⟩
  intro N76 e76
  have E76 := Em_R E75 20 0 20 67 e76 rfl rfl
  refine nw E76 20 68 rfl (by decide) (fun q77 Y77 M77 k77 E77 => ?_)
  rw [← k77 20 0 rfl]
  refine ⟨Em_k E77 20 0 rfl rfl, ?_⟩
  intro N78 e78
  have E78 := Em_R E77 20 0 20 68 e78 rfl rfl
  refine hc1 (fun y => f_X12_init_359 Y77 (q77 20 0) v2 v3 Kn N78 y) ?_
  unfold f_X12_init_359
  intro N79 e79
  have E79 := Em_I E78 20 0 e79 rfl
  refine hc2 (fun y => f_X12_init_384 Y77 (q77 20 0) v3 Kn N79 y) ?_
  unfold f_X12_init_384
  intro N80 e80
  have E80 := Em_I E79 20 0 e80 rfl
  refine hc3 (fun y => f_X12_init_413 Y77 (q77 20 0) Kn N80 y) ?_
  unfold f_X12_init_413
  intro N81 e81
  have E81 := Em_I E80 20 0 e81 rfl
  refine h q77 _ _ _ _ _ _ E81 ?_ ?_ ?_ ?_ rfl
  · rw [k77 0 0 (by (repeat refine (m2_ne _ _ (by omega)).trans ?_); exact ha), k75 0 0 (by (repeat refine (m2_ne _ _ (by omega)).trans ?_); exact ha), k73 0 0 (by (repeat refine (m2_ne _ _ (by omega)).trans ?_); exact ha), k71 0 0 (by (repeat refine (m2_ne _ _ (by omega)).trans ?_); exact ha), k69 0 0 (by (repeat refine (m2_ne _ _ (by omega)).trans ?_); exact ha), k67 0 0 (by (repeat refine (m2_ne _ _ (by omega)).trans ?_); exact ha), k65 0 0 (by (repeat refine (m2_ne _ _ (by omega)).trans ?_); exact ha), k63 0 0 (by (repeat refine (m2_ne _ _ (by omega)).trans ?_); exact ha), k61 0 0 (by (repeat refine (m2_ne _ _ (by omega)).trans ?_); exact ha), k59 0 0 (by (repeat refine (m2_ne _ _ (by omega)).trans ?_); exact ha), k57 0 0 (by (repeat refine (m2_ne _ _ (by omega)).trans ?_); exact ha), k55 0 0 (by (repeat refine (m2_ne _ _ (by omega)).trans ?_); exact ha), k53 0 0 (by (repeat refine (m2_ne _ _ (by omega)).trans ?_); exact ha), k50 0 0 (by (repeat refine (m2_ne _ _ (by omega)).trans ?_); exact ha), k48 0 0 (by (repeat refine (m2_ne _ _ (by omega)).trans ?_); exact ha), k46 0 0 (by (repeat refine (m2_ne _ _ (by omega)).trans ?_); exact ha), k44 0 0 (by (repeat refine (m2_ne _ _ (by omega)).trans ?_); exact ha), k42 0 0 (by (repeat refine (m2_ne _ _ (by omega)).trans ?_); exact ha), k40 0 0 (by (repeat refine (m2_ne _ _ (by omega)).trans ?_); exact ha), k38 0 0 (by (repeat refine (m2_ne _ _ (by omega)).trans ?_); exact ha), k36 0 0 (by (repeat refine (m2_ne _ _ (by omega)).trans ?_); exact ha), k34 0 0 (by (repeat refine (m2_ne _ _ (by omega)).trans ?_); exact ha), k32 0 0 (by (repeat refine (m2_ne _ _ (by omega)).trans ?_); exact ha), k30 0 0 (by (repeat refine (m2_ne _ _ (by omega)).trans ?_); exact ha), k28 0 0 (by (repeat refine (m2_ne _ _ (by omega)).trans ?_); exact ha), k26 0 0 (by (repeat refine (m2_ne _ _ (by omega)).trans ?_); exact ha), k24 0 0 (by (repeat refine (m2_ne _ _ (by omega)).trans ?_); exact ha), k22 0 0 (by (repeat refine (m2_ne _ _ (by omega)).trans ?_); exact ha), k20 0 0 (by (repeat refine (m2_ne _ _ (by omega)).trans ?_); exact ha), k18 0 0 (by (repeat refine (m2_ne _ _ (by omega)).trans ?_); exact ha), k16 0 0 (by (repeat refine (m2_ne _ _ (by omega)).trans ?_); exact ha), k14 0 0 (by (repeat refine (m2_ne _ _ (by omega)).trans ?_); exact ha), k12 0 0 (by (repeat refine (m2_ne _ _ (by omega)).trans ?_); exact ha), k10 0 0 (by (repeat refine (m2_ne _ _ (by omega)).trans ?_); exact ha), k8 0 0 (by (repeat refine (m2_ne _ _ (by omega)).trans ?_); exact ha), k6 0 0 (by (repeat refine (m2_ne _ _ (by omega)).trans ?_); exact ha), k4 0 0 (by (repeat refine (m2_ne _ _ (by omega)).trans ?_); exact ha), k2 0 0 (by (repeat refine (m2_ne _ _ (by omega)).trans ?_); exact ha)]
  · rw [k77 20 0 rfl, k75 20 0 rfl, k73 20 0 rfl, k71 20 0 rfl, k69 20 0 rfl, k67 20 0 rfl, k65 20 0 rfl, k63 20 0 rfl, k61 20 0 rfl, k59 20 0 rfl, k57 20 0 rfl, k55 20 0 rfl, k53 20 0 rfl, k50 20 0 rfl, k48 20 0 rfl, k46 20 0 rfl, k44 20 0 rfl, k42 20 0 rfl, k40 20 0 rfl, k38 20 0 rfl, k36 20 0 rfl, k34 20 0 rfl, k32 20 0 rfl, k30 20 0 rfl, k28 20 0 rfl, k26 20 0 rfl, k24 20 0 rfl, k22 20 0 rfl, k20 20 0 rfl, k18 20 0 rfl, k16 20 0 rfl, k14 20 0 rfl, k12 20 0 rfl, k10 20 0 rfl, k8 20 0 rfl, k6 20 0 rfl, k4 20 0 rfl, k2 20 0 rfl]
  · obtain ⟨s1, s2, s3, s4⟩ := hcs
    refine ⟨fun b hb => ⟨?_, ?_, ?_⟩, fun x hx => ?_, fun l hl => ⟨?_, ?_, fun c hc => ⟨?_, ?_, ?_⟩⟩⟩
    · (repeat refine (m2_ne _ _ (by omega)).trans ?_); exact (s1 b hb).1
    · (repeat refine (m2_ne _ _ (by omega)).trans ?_); exact (s1 b hb).2.1
    · (repeat refine (m2_ne _ _ (by omega)).trans ?_); exact (s1 b hb).2.2
    · refine (congrFun (?_ : _ = R 0 x.1) x.2.1).trans (s2 x hx)
      (repeat refine (m2_ne _ _ (by omega)).trans ?_); rfl
    · refine (congrFun (?_ : _ = R 0 14) l).trans (s3 l hl).1
      (repeat refine (m2_ne _ _ (by omega)).trans ?_); rfl
    · (repeat refine (m2_ne _ _ (by omega)).trans ?_); exact (s3 l hl).2.1
    · (repeat refine (m2_ne _ _ (by omega)).trans ?_)
      refine (if_pos (by omega)).trans ?_
      exact ((s3 l hl).2.2 c hc).1
    · (repeat refine (m2_ne _ _ (by omega)).trans ?_); exact ((s3 l hl).2.2 c hc).2.1
    · (repeat refine (m2_ne _ _ (by omega)).trans ?_); exact ((s3 l hl).2.2 c hc).2.2
  · refine ⟨fun x hx => ?_, fun f hf => ?_, rfl, fun x hx => ?_⟩
    · simp only [mkL, List.mem_cons, List.not_mem_nil, or_false] at hx
      rcases hx with rfl | rfl | rfl | rfl | rfl | rfl | rfl | rfl | rfl | rfl | rfl | rfl | rfl | rfl | rfl | rfl | rfl | rfl | rfl | rfl | rfl | rfl | rfl | rfl | rfl | rfl | rfl | rfl | rfl | rfl | rfl | rfl | rfl | rfl | rfl | rfl | rfl | rfl | rfl <;> exact ⟨rfl, rfl⟩
    · simp only [mfL, List.mem_cons, List.not_mem_nil, or_false] at hf
      rcases hf with rfl | rfl | rfl | rfl | rfl | rfl | rfl | rfl | rfl | rfl | rfl | rfl | rfl | rfl | rfl | rfl | rfl | rfl | rfl | rfl | rfl | rfl | rfl | rfl | rfl | rfl | rfl | rfl | rfl | rfl | rfl | rfl | rfl | rfl | rfl | rfl | rfl | rfl <;> rfl
    · simp only [mfL, List.mem_cons, List.not_mem_nil, or_false] at hx
      rcases hx with rfl | rfl | rfl | rfl | rfl | rfl | rfl | rfl | rfl | rfl | rfl | rfl | rfl | rfl | rfl | rfl | rfl | rfl | rfl | rfl | rfl | rfl | rfl | rfl | rfl | rfl | rfl | rfl | rfl | rfl | rfl | rfl | rfl | rfl | rfl | rfl | rfl | rfl <;> rfl
