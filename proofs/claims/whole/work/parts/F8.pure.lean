/-! the law begins -/
def prN (a b : Nat) : Nat := (a + b) * (a + b) + a
theorem prN_inj {a b c d : Nat} (h : prN a b = prN c d) : a = c ∧ b = d := by
  unfold prN at h
  have key : ∀ s t x y : Nat, x ≤ s → y ≤ t → s * s + x = t * t + y → s = t := by
    intro s t x y hx hy e
    rcases Nat.lt_trichotomy s t with g | g | g
    · exfalso
      have h1 : (s + 1) * (s + 1) ≤ t * t := Nat.mul_le_mul g g
      have h2 : (s + 1) * (s + 1) = s * s + 2 * s + 1 := by rw [Nat.add_mul, Nat.mul_add, Nat.one_mul, Nat.mul_one]; omega
      omega
    · exact g
    · exfalso
      have h1 : (t + 1) * (t + 1) ≤ s * s := Nat.mul_le_mul g g
      have h2 : (t + 1) * (t + 1) = t * t + 2 * t + 1 := by rw [Nat.add_mul, Nat.mul_add, Nat.one_mul, Nat.mul_one]; omega
      omega
  have e := key (a + b) (c + d) a c (by omega) (by omega) h
  rw [e] at h
  omega
theorem Em_q {Y : Ly} {M : Mm} {q q' : Nat → Nat → Nat} {A : AF} {K : KF} {I : IF} {R : RF2} (E : Em Y M q A K I R) (hq : ∀ a b, A a b = true → q' a b = q a b) : Em Y M q' A K I R := by
  obtain ⟨h1, h2, Bd, h3⟩ := E
  refine ⟨fun a b h => ?_, fun a b c d h h' e => h2 a b c d h h' (by rw [← hq a b h, ← hq c d h']; exact e), Bd, fun a b h => by rw [hq a b h]; exact h3 a b h⟩
  rw [hq a b h]
  obtain ⟨g1, g2, g3, g4, g5, g6⟩ := h1 a b h
  refine ⟨g1, g2, g3, g4, g5, fun f t ht => ?_⟩
  obtain ⟨w1, w2⟩ := g6 f t ht
  exact ⟨w1, by rw [hq _ _ w1]; exact w2⟩
theorem Em_ext {Y : Ly} {M : Mm} {q : Nat → Nat → Nat} {A : AF} {K : KF} {I : IF} {R : RF2} (E : Em Y M q A K I R) : ∃ q' : Nat → Nat → Nat, (∀ a b, A a b = true → q' a b = q a b) ∧ (∀ a b c d, (q' a b = q' c d) = (a = c ∧ b = d)) := by
  obtain ⟨h1, h2, Bd, h3⟩ := E
  refine ⟨fun a b => if A a b = true then q a b else Bd + prN a b, fun a b h => if_pos h, fun a b c d => propext ⟨fun e => ?_, fun e => by rw [e.1, e.2]⟩⟩
  simp only at e
  by_cases z : A a b = true
  · by_cases w : A c d = true
    · rw [if_pos z, if_pos w] at e; exact h2 a b c d z w e
    · rw [if_pos z, if_neg w] at e
      have := h3 a b z
      omega
  · by_cases w : A c d = true
    · rw [if_neg z, if_pos w] at e
      have := h3 c d w
      omega
    · rw [if_neg z, if_neg w] at e
      exact prN_inj (by omega)
def dr0 : Dr := (fun _ => 0, fun _ => 0, fun _ => 0, fun _ => 0, fun _ => 0, 0)
def gs0 : GSt := (fun _ => 0, fun _ => 0, fun _ => 0, fun _ => 0, fun _ => 0, fun _ => 0, 0)
def ls0 : LSt := (fun _ => 0, fun _ => [], -1, 0, 0)
def as0 : AS := ([], dr0, [], gs0, fun _ => 0, ls0, 0, 0)
theorem FFs_0 : ∀ n, FFs (fun _ => []) n = []
  | 0 => rfl
  | n + 1 => by show FFs (fun _ => []) n ++ [] = []; rw [FFs_0 n]; rfl
theorem Lie_z {f : Nat → Int32} (hf : f = fun _ => 0) : ∀ {xs : List Int32} {a : Nat}, (∀ x, x ∈ xs → x = 0) → Lie f a xs
  | [], _, _ => trivial
  | x :: xs, a, h => ⟨by rw [hf]; exact (h x (List.mem_cons_self ..)).symm, Lie_z hf (fun y hy => h y (List.mem_cons_of_mem _ hy))⟩
theorem hd_z : ∀ x, x ∈ hdL 0 0 [] → x = 0 := by
  intro x hx
  unfold hdL hdH segL at hx
  rw [pb_0 8 (by omega), show lN ([] : List Sg).length = 0 from rfl, pb_0 4 (by omega)] at hx
  simp only [List.mem_append, List.mem_replicate, List.flatMap_nil, List.not_mem_nil] at hx
  rcases hx with (((hx | hx) | hx) | hx) | hx
  · exact hx.2
  · exact hx.2
  · exact hx.2
  · cases hx
  · exact hx.2
theorem pb_z : ∀ x, x ∈ pb 0 8 → x = 0 := by
  intro x hx
  rw [pb_0 8 (by omega), List.mem_replicate] at hx
  exact hx.2
theorem as0_I (nL W nB : Nat) : AI nL W nB 0 as0 := by
  refine ⟨⟨by decide, (fun p hp => by cases hp)⟩, ⟨by decide, by decide, fun k hk => absurd hk (Nat.not_lt_zero _)⟩, ⟨by decide, (fun b hb => by cases hb)⟩, ⟨by decide, fun k _ => Nat.le_refl _, fun g _ => ⟨Nat.le_refl _, (show 0 ≤ 2 by decide), (show 0 < 256 by decide), (show 0 < 256 by decide), fun k _ h => h, by show 0 ≤ 0 + 20; omega, fun h => absurd (show (0 : Nat) = 2 from h) (by decide), fun _ => ⟨rfl, rfl⟩⟩⟩, ⟨fun l _ => ⟨Nat.zero_le _, (fun s hs => by cases hs)⟩, fun b => ?_⟩, (fun l _ b hb => by cases hb), fun l _ => ⟨0, 0, rfl, rfl, Nat.le_refl _, Nat.le_refl _⟩, (fun b hb => by cases hb), Or.inl ⟨rfl, Or.inl rfl⟩⟩
  show cv W (FFs (fun _ => []) (nL + 1)) b ≤ 1
  rw [FFs_0]
  show 0 ≤ 1
  omega
set_option maxRecDepth 100000 in
set_option maxHeartbeats 8000000 in
theorem mkSC {Y : Ly} {q : Nat → Nat → Nat} {nL W nB : Nat} (hinj : ∀ a b c d, (q a b = q c d) = (a = c ∧ b = d)) (hd : 1 ≤ nL ∧ nL ≤ 8 ∧ 1 ≤ W ∧ W ≤ 16 ∧ 32 ≤ nB ∧ nB ≤ 256) (cK : ∀ b, b < 34 → yK Y (q 0 b) = (kcF nL nB b).1 ∧ yN Y (q 0 b) = (kcF nL nB b).2) (mK : ∀ x, x ∈ mkL → yK Y (q 20 x.1) = x.2.1 ∧ yN Y (q 20 x.1) = x.2.2) (tKh : ∀ l, l ≤ nL → ∀ c, c < 5 → yK Y (q (l + 1) c) = (if c = 0 then (8, 0) else if c = 4 then (101, nB * 1024 / 61) else (101, 60) : Nat × Nat).1 ∧ yN Y (q (l + 1) c) = (if c = 0 then (8, 0) else if c = 4 then (101, nB * 1024 / 61) else (101, 60) : Nat × Nat).2) (k21 : yK Y (q 21 0) = 102) (n21 : yN Y (q 21 0) = 1) : SC Y q nL W nB := ⟨hinj, hd, (cK 0 (by decide)).1, (cK 1 (by decide)).1, (cK 1 (by decide)).2, (cK 2 (by decide)).1, (cK 3 (by decide)).1, (cK 3 (by decide)).2, (cK 4 (by decide)).1, (cK 5 (by decide)).1, (cK 6 (by decide)).1, (cK 7 (by decide)).1, (cK 7 (by decide)).2, (cK 8 (by decide)).1, (cK 8 (by decide)).2, (cK 9 (by decide)).1, (cK 10 (by decide)).1, (cK 11 (by decide)).1, (cK 11 (by decide)).2, (cK 12 (by decide)).1, (cK 12 (by decide)).2, (cK 13 (by decide)).1, (cK 14 (by decide)).1, (cK 14 (by decide)).2, (cK 15 (by decide)).1, (cK 15 (by decide)).2, (cK 16 (by decide)).1, (cK 16 (by decide)).2, (cK 17 (by decide)).1, (cK 18 (by decide)).1, (cK 19 (by decide)).1, (cK 20 (by decide)).1, (cK 20 (by decide)).2, (cK 21 (by decide)).1, (cK 21 (by decide)).2, (cK 22 (by decide)).1, (cK 22 (by decide)).2, (cK 23 (by decide)).1, (cK 23 (by decide)).2, (cK 24 (by decide)).1, (cK 24 (by decide)).2, (cK 25 (by decide)).1, (cK 25 (by decide)).2, (cK 26 (by decide)).1, (cK 27 (by decide)).1, (cK 27 (by decide)).2, (cK 28 (by decide)).1, (cK 28 (by decide)).2, (cK 29 (by decide)).1, (cK 29 (by decide)).2, (cK 30 (by decide)).1, (cK 30 (by decide)).2, (cK 31 (by decide)).1, (cK 31 (by decide)).2, (cK 32 (by decide)).1, (cK 32 (by decide)).2, (cK 33 (by decide)).1, (cK 33 (by decide)).2, (fun l hl => (tKh l hl 0 (by decide)).1), (fun l hl => (tKh l hl 1 (by decide)).1), (fun l hl => (tKh l hl 1 (by decide)).2), (fun l hl => (tKh l hl 2 (by decide)).1), (fun l hl => (tKh l hl 2 (by decide)).2), (fun l hl => (tKh l hl 3 (by decide)).1), (fun l hl => (tKh l hl 3 (by decide)).2), (fun l hl => (tKh l hl 4 (by decide)).1), (fun l hl => (tKh l hl 4 (by decide)).2), (mK (0, 12, 0) (by decide)).1, (mK (11, 101, 16384) (by decide)).1, (mK (11, 101, 16384) (by decide)).2, (mK (14, 102, 1000) (by decide)).1, (mK (14, 102, 1000) (by decide)).2, (mK (15, 101, 1000) (by decide)).1, (mK (15, 101, 1000) (by decide)).2, (mK (16, 102, 1000) (by decide)).1, (mK (16, 102, 1000) (by decide)).2, (mK (17, 101, 1000) (by decide)).1, (mK (17, 101, 1000) (by decide)).2, (mK (18, 101, 1000) (by decide)).1, (mK (18, 101, 1000) (by decide)).2, (mK (20, 101, 4500) (by decide)).1, (mK (20, 101, 4500) (by decide)).2, (mK (21, 101, 4500) (by decide)).1, (mK (21, 101, 4500) (by decide)).2, (mK (22, 101, 4500) (by decide)).1, (mK (22, 101, 4500) (by decide)).2, (mK (23, 101, 4500) (by decide)).1, (mK (23, 101, 4500) (by decide)).2, (mK (24, 101, 540000) (by decide)).1, (mK (24, 101, 540000) (by decide)).2, (mK (25, 101, 540000) (by decide)).1, (mK (25, 101, 540000) (by decide)).2, (mK (27, 102, 9) (by decide)).1, (mK (27, 102, 9) (by decide)).2, (mK (28, 102, 9) (by decide)).1, (mK (28, 102, 9) (by decide)).2, (mK (29, 101, 9) (by decide)).1, (mK (29, 101, 9) (by decide)).2, (mK (30, 101, 540) (by decide)).1, (mK (30, 101, 540) (by decide)).2, (mK (31, 101, 540) (by decide)).1, (mK (31, 101, 540) (by decide)).2, (mK (32, 103, 256) (by decide)).1, (mK (32, 103, 256) (by decide)).2, (mK (33, 101, 32768) (by decide)).1, (mK (33, 101, 32768) (by decide)).2, (mK (35, 101, 8) (by decide)).1, (mK (35, 101, 8) (by decide)).2, (mK (36, 101, 8) (by decide)).1, (mK (36, 101, 8) (by decide)).2, (mK (37, 101, 8) (by decide)).1, (mK (37, 101, 8) (by decide)).2, (mK (38, 103, 64) (by decide)).1, (mK (38, 103, 64) (by decide)).2, (mK (39, 103, 64) (by decide)).1, (mK (39, 103, 64) (by decide)).2, (mK (40, 101, 64) (by decide)).1, (mK (40, 101, 64) (by decide)).2, (mK (55, 101, 40000) (by decide)).1, (mK (55, 101, 40000) (by decide)).2, (mK (56, 101, 40000) (by decide)).1, (mK (56, 101, 40000) (by decide)).2, (mK (57, 101, 40000) (by decide)).1, (mK (57, 101, 40000) (by decide)).2, (mK (58, 101, 40000) (by decide)).1, (mK (58, 101, 40000) (by decide)).2, (mK (59, 101, 40000) (by decide)).1, (mK (59, 101, 40000) (by decide)).2, (mK (60, 103, 40000) (by decide)).1, (mK (60, 103, 40000) (by decide)).2, (mK (61, 101, 4096) (by decide)).1, (mK (61, 101, 4096) (by decide)).2, (mK (62, 101, 40000) (by decide)).1, (mK (62, 101, 40000) (by decide)).2, (mK (63, 101, 4500) (by decide)).1, (mK (63, 101, 4500) (by decide)).2, (mK (64, 101, 4500) (by decide)).1, (mK (64, 101, 4500) (by decide)).2, (mK (66, 101, 60) (by decide)).1, (mK (66, 101, 60) (by decide)).2, (mK (67, 101, 60) (by decide)).1, (mK (67, 101, 60) (by decide)).2, (mK (68, 101, 78) (by decide)).1, (mK (68, 101, 78) (by decide)).2, k21, n21⟩
set_option maxRecDepth 100000 in
theorem mkSR {q : Nat → Nat → Nat} {nL : Nat} {R : Nat → Nat → Option Nat} (rK : ∀ x, x ∈ rkL → R (q 0 x.1) x.2.1 = some (q 0 x.2.2)) (rT : ∀ l, l ≤ nL → R (q 0 14) l = some (q (l + 1) 0)) (rTt : ∀ l, l ≤ nL → ∀ f c, tabR (l + 1) f = some (l + 1, c) → R (q (l + 1) 0) f = some (q (l + 1) c)) : SR q nL R := ⟨rK (0, 1, 1) (by decide), rK (0, 3, 2) (by decide), rK (0, 4, 4) (by decide), rK (0, 5, 6) (by decide), rK (0, 6, 10) (by decide), rK (0, 7, 12) (by decide), rK (0, 10, 13) (by decide), rK (0, 11, 18) (by decide), rK (0, 12, 26) (by decide), rK (2, 0, 3) (by decide), rK (4, 2, 5) (by decide), rK (6, 0, 7) (by decide), rK (6, 3, 8) (by decide), rK (6, 5, 9) (by decide), rK (10, 0, 11) (by decide), rK (13, 0, 10) (by decide), rK (13, 1, 14) (by decide), rK (13, 4, 15) (by decide), rK (13, 5, 16) (by decide), rK (13, 6, 17) (by decide), rK (18, 0, 13) (by decide), rK (18, 1, 11) (by decide), rK (18, 2, 19) (by decide), rK (18, 3, 20) (by decide), rK (18, 4, 21) (by decide), rK (18, 6, 22) (by decide), rK (18, 10, 23) (by decide), rK (18, 11, 24) (by decide), rK (18, 12, 25) (by decide), rK (26, 1, 27) (by decide), rK (26, 2, 28) (by decide), rK (26, 3, 29) (by decide), rK (26, 4, 30) (by decide), rK (26, 5, 31) (by decide), rK (26, 6, 32) (by decide), rK (26, 7, 13) (by decide), rK (26, 8, 33) (by decide), (fun l hl => rT l hl), (fun l hl => rTt l hl 4 1 rfl), (fun l hl => rTt l hl 5 2 rfl), (fun l hl => rTt l hl 6 3 rfl), (fun l hl => rTt l hl 8 4 rfl)⟩
set_option maxRecDepth 100000 in
theorem mkSM {q : Nat → Nat → Nat} {R : Nat → Nat → Option Nat} (mRk : ∀ f, f ∈ mfL → R (q 20 0) f = some (q 20 (f + 1))) : SM q R := ⟨mRk 10 (by decide), mRk 13 (by decide), mRk 14 (by decide), mRk 15 (by decide), mRk 16 (by decide), mRk 17 (by decide), mRk 19 (by decide), mRk 20 (by decide), mRk 21 (by decide), mRk 22 (by decide), mRk 26 (by decide), mRk 27 (by decide), mRk 28 (by decide), mRk 29 (by decide), mRk 30 (by decide), mRk 31 (by decide), mRk 32 (by decide), mRk 34 (by decide), mRk 35 (by decide), mRk 36 (by decide), mRk 37 (by decide), mRk 38 (by decide), mRk 39 (by decide), mRk 54 (by decide), mRk 55 (by decide), mRk 56 (by decide), mRk 57 (by decide), mRk 58 (by decide), mRk 59 (by decide), mRk 60 (by decide), mRk 61 (by decide), mRk 62 (by decide), mRk 63 (by decide), mRk 65 (by decide), mRk 66 (by decide), mRk 67 (by decide)⟩
set_option maxRecDepth 100000 in
set_option maxHeartbeats 8000000 in
theorem law_all : ∀ (b L : Nat) (xs : Nat → Int32) (M : Mm), L ≤ 4611 → f_L_law b L xs yE M := by
  intro b L xs M hLn
  unfold f_L_law
  obtain ⟨nL, l1, l2, hL, hc1⟩ := clm 1 8 (by decide) (by decide) (sc_at L xs 0)
  obtain ⟨W, w1, w2, hW, hc2⟩ := clm 1 16 (by decide) (by decide) (sc_at L xs 1)
  obtain ⟨nB, b1, b2, hB, hc3⟩ := clm 32 256 (by decide) (by decide) (sc_at L xs 2)
  have hd : 1 ≤ nL ∧ nL ≤ 8 ∧ 1 ≤ W ∧ W ≤ 16 ∧ 32 ≤ nB ∧ nB ≤ 256 := ⟨l1, l2, w1, w2, b1, b2⟩
  refine nw (Em_0 yE M (fun _ _ => 0)) 0 0 rfl (by decide) (fun q1 Y2 M3 _ E1 => ?_)
  refine i_class hd hL hB hW E1 (fun q2 Y7 M8 A K I R E2 k2 hcs => ?_)
  have eA : nA A = A := by
    funext x y
    unfold nA
    by_cases z : x < 20
    · rw [if_pos z]
    · rw [if_neg z]; exact (hcs.2.2.2 x y (by omega)).symm
  have E2' : Em Y7 M8 q2 (nA A) K I R := by rw [eA]; exact E2
  rw [← k2]
  refine nw E2' 20 0 rfl (by decide) (fun q3 Y10 M11 k3 E3 => ?_)
  rw [← k3 0 0 (hcs.1 0 (by decide)).1]
  refine i_model l2 hc1 hc2 hc3 hcs E3 (fun q4 Y15 M16 A' K' I' R' E4 k4 k4' hcq hmq h21 => ?_)
  rw [← k4, ← k4']
  refine nw E4 21 0 h21 (by decide) (fun q5 Y18 M19 k5 E5 => ?_)
  rw [← k5 0 0 (hcq.1 0 (by decide)).1, ← k5 20 0 (hmq.1 (0, 12, 0) (by decide)).1]
  obtain ⟨q, hq, hinj⟩ := Em_ext E5
  have E := Em_q E5 hq
  have u21 : m2 A' 21 0 true 21 0 = true := m2_at _ _ _ _
  have uA : ∀ x y, x ≠ 21 → A' x y = true → m2 A' 21 0 true x y = true := fun x y hx h => by rw [m2_ne _ _ (by omega)]; exact h
  have a0 : ∀ b, b < 34 → m2 A' 21 0 true 0 b = true := fun b hb => uA 0 b (by decide) (hcq.1 b hb).1
  have aM : ∀ x, x ∈ mkL → m2 A' 21 0 true 20 x.1 = true := fun x hx => uA 20 _ (by decide) (hmq.1 x hx).1
  have aT2 : ∀ l, l ≤ nL → ∀ c, c < 5 → m2 A' 21 0 true (l + 1) c = true := fun l hl c hc => uA (l + 1) c (by omega) ((hcq.2.2 l hl).2.2 c hc).1
  rw [← hq 0 0 (a0 0 (by decide)), ← hq 20 0 (aM (0, 12, 0) (by decide)), ← hq 21 0 u21]
  have k21 : yK Y18 (q 21 0) = 102 := Em_k E 21 0 u21 (by rw [m2_at])
  have n21 : yN Y18 (q 21 0) = 1 := Em_n E 21 0 u21 (by rw [m2_at])
  have cK : ∀ b, b < 34 → yK Y18 (q 0 b) = (kcF nL nB b).1 ∧ yN Y18 (q 0 b) = (kcF nL nB b).2 ∧ mI M19 (q 0 b) = icF nL W b ∧ mJ M19 (q 0 b) = fun _ => 0 := fun b hb => ⟨Em_k E 0 b (a0 b hb) (by rw [m2_ne _ _ (by omega), (hcq.1 b hb).2.1]), Em_n E 0 b (a0 b hb) (by rw [m2_ne _ _ (by omega), (hcq.1 b hb).2.1]), Em_i E 0 b (a0 b hb) (by rw [m2_ne _ _ (by omega), (hcq.1 b hb).2.2]), Em_j E 0 b (a0 b hb)⟩
  have mK : ∀ x, x ∈ mkL → yK Y18 (q 20 x.1) = x.2.1 ∧ yN Y18 (q 20 x.1) = x.2.2 ∧ mJ M19 (q 20 x.1) = fun _ => 0 := fun x hx => ⟨Em_k E 20 x.1 (aM x hx) (by rw [m2_ne _ _ (by omega), (hmq.1 x hx).2]), Em_n E 20 x.1 (aM x hx) (by rw [m2_ne _ _ (by omega), (hmq.1 x hx).2]), Em_j E 20 x.1 (aM x hx)⟩
  have tKh : ∀ l, l ≤ nL → ∀ c, c < 5 → yK Y18 (q (l + 1) c) = (if c = 0 then (8, 0) else if c = 4 then (101, nB * 1024 / 61) else (101, 60) : Nat × Nat).1 ∧ yN Y18 (q (l + 1) c) = (if c = 0 then (8, 0) else if c = 4 then (101, nB * 1024 / 61) else (101, 60) : Nat × Nat).2 ∧ mI M19 (q (l + 1) c) = (if c = 0 then m1 (fun _ => 0) 0 (nI (l + 1)) else fun _ => 0) ∧ mJ M19 (q (l + 1) c) = fun _ => 0 := fun l hl c hc => ⟨Em_k E (l + 1) c (aT2 l hl c hc) (by rw [m2_ne _ _ (by omega), ((hcq.2.2 l hl).2.2 c hc).2.1]), Em_n E (l + 1) c (aT2 l hl c hc) (by rw [m2_ne _ _ (by omega), ((hcq.2.2 l hl).2.2 c hc).2.1]), Em_i E (l + 1) c (aT2 l hl c hc) (by rw [m2_ne _ _ (by omega), ((hcq.2.2 l hl).2.2 c hc).2.2]), Em_j E (l + 1) c (aT2 l hl c hc)⟩
  have rlt : ∀ x, x ∈ rkL → x.1 < 34 := by decide
  have rK : ∀ x, x ∈ rkL → mR M19 (q 0 x.1) x.2.1 = some (q 0 x.2.2) := fun x hx => Em_r E 0 x.1 x.2.1 0 x.2.2 (a0 _ (rlt x hx)) (by rw [m2_ne _ _ (by omega)]; exact hcq.2.1 x hx)
  have rT : ∀ l, l ≤ nL → mR M19 (q 0 14) l = some (q (l + 1) 0) := fun l hl => Em_r E 0 14 l (l + 1) 0 (a0 14 (by decide)) (by rw [m2_ne _ _ (by omega)]; exact (hcq.2.2 l hl).1)
  have rTt : ∀ l, l ≤ nL → ∀ f c, tabR (l + 1) f = some (l + 1, c) → mR M19 (q (l + 1) 0) f = some (q (l + 1) c) := fun l hl f c hf => Em_r E (l + 1) 0 f (l + 1) c (aT2 l hl 0 (by decide)) (by rw [m2_ne _ _ (by omega), (hcq.2.2 l hl).2.1]; exact hf)
  have mRk : ∀ f, f ∈ mfL → mR M19 (q 20 0) f = some (q 20 (f + 1)) := fun f hf => Em_r E 20 0 f 20 (f + 1) (aM (0, 12, 0) (by decide)) (by rw [m2_ne _ _ (by omega)]; exact hmq.2.1 f hf)
  have m0 : mI M19 (q 20 0) = m1 (m1 (m1 (m1 (fun _ => 0) 7 (-1)) 1 (nI nL)) 2 (nI W)) 3 (nI nB) := Em_i E 20 0 (aM (0, 12, 0) (by decide)) (by rw [m2_ne _ _ (by omega)]; exact hmq.2.2.1)
  have fA : ∀ f, f ∈ mfL → m2 A' 21 0 true 20 (f + 1) = true := fun f hf => by
    have key : ∀ f, f ∈ mfL → ∃ x, x ∈ mkL ∧ x.1 = f + 1 := by decide
    obtain ⟨x, hx, e⟩ := key f hf
    rw [← e]; exact aM x hx
  have mZr : ∀ f, f ∈ mfL → mI M19 (q 20 (f + 1)) = fun _ => 0 := fun f hf => Em_i E 20 (f + 1) (fA f hf) (by rw [m2_ne _ _ (by omega)]; exact hmq.2.2.2 f hf)
  have mZj : ∀ f, f ∈ mfL → mJ M19 (q 20 (f + 1)) = fun _ => 0 := fun f hf => Em_j E 20 (f + 1) (fA f hf)
  have mj0 : mJ M19 (q 20 0) = fun _ => 0 := (mK (0, 12, 0) (by decide)).2.2
  have hC : SC Y18 q nL W nB := mkSC hinj hd (fun b hb => ⟨(cK b hb).1, (cK b hb).2.1⟩) (fun x hx => ⟨(mK x hx).1, (mK x hx).2.1⟩) (fun l hl c hc => ⟨(tKh l hl c hc).1, (tKh l hl c hc).2.1⟩) k21 n21
  have hR : SR q nL (mR M19) := mkSR rK rT rTt
  have hM : SM q (mR M19) := mkSM mRk
  have hA : Rsl Y18 q := ⟨k21, by rw [n21]; exact vp_in_nI (n := 0) (by decide) (by decide)⟩
  have cI : ∀ b, b < 34 → mI M19 (q 0 b) = icF nL W b := fun b hb => (cK b hb).2.2.1
  have hCS : CS q nL W nB M19 as0 := by
    refine ⟨by rw [cI 0 (by decide)]; rfl, ⟨by rw [cI 0 (by decide)]; rfl, trivial⟩, ⟨by rw [cI 2 (by decide)]; rfl, by rw [cI 2 (by decide)]; rfl, by rw [cI 2 (by decide)]; rfl, trivial⟩, ⟨by rw [cI 6 (by decide)]; rfl, by rw [cI 6 (by decide)]; rfl, Ar_nil _, (fun p hp => by cases hp)⟩, ⟨by rw [cI 26 (by decide)]; rfl, fun g _ => by rw [cI 27 (by decide)]; rfl, fun g _ => by rw [cI 28 (by decide)]; rfl, fun g _ => by rw [cI 29 (by decide)]; rfl, fun g _ => by rw [cI 30 (by decide)]; rfl, fun g _ => by rw [cI 31 (by decide)]; rfl, fun g _ => by rw [cI 32 (by decide)]; rfl⟩, ?_, ⟨Lie_z (cI 11 (by decide)) pb_z, fun _ => ⟨by rw [(cK 0 (by decide)).2.2.2]; rfl, by rw [(cK 0 (by decide)).2.2.2]; rfl⟩⟩⟩
    have z13 : mI M19 (q 0 13) 3 = nI (nL + 2) := by
      rw [cI 13 (by decide)]
      show nI nL + 2 = nI (nL + 2)
      rw [show (2 : Int32) = nI 2 from rfl, nI_add]
    have hLS : LogS q nL W M19 := ⟨by rw [cI 13 (by decide)]; rfl, z13, fun l hl => by rw [(tKh l hl 0 (by decide)).2.2.1]; rfl⟩
    refine ⟨hLS, fun l hl => ⟨Lie_z (cI 11 (by decide)) hd_z, (fun p hp => by cases hp)⟩, by rw [cI 10 (by decide)]; rfl, by rw [cI 10 (by decide)]; rfl, by rw [cI 10 (by decide)]; rfl, fun _ => ⟨hLS.1, hLS.2.1, fun l hl => ⟨hLS.2.2 l hl, ⟨by rw [(tKh l hl 0 (by decide)).2.2.1]; rfl, by rw [(tKh l hl 0 (by decide)).2.2.1]; rfl, Ar_nil _, Ar_nil _, Ar_nil _, Ar_nil _⟩, by rw [(tKh l hl 0 (by decide)).2.2.2]; rfl, by rw [(tKh l hl 0 (by decide)).2.2.2]; rfl⟩⟩⟩
  have hMS : MS q nL W nB M19 as0 := by
    refine ⟨⟨by rw [m0]; rfl, trivial⟩, ⟨by rw [m0]; rfl, fun k hk => absurd hk (Nat.not_lt_zero _)⟩, ⟨by rw [m0]; rfl, (fun p hp => by cases hp)⟩, ⟨by rw [m0]; rfl, fun g _ => by rw [mZr 35 (by decide)]; rfl, fun g _ => by rw [mZr 34 (by decide)]; rfl, fun g k _ _ => by rw [mZr 37 (by decide)]; exact (bt1_z k).symm, fun g k _ _ => by rw [mZr 38 (by decide)]; exact (bt1_z k).symm, fun g _ => by rw [mZr 36 (by decide)]; rfl, fun g _ => by rw [mZr 39 (by decide)]; rfl⟩, ⟨⟨[], 24, 0, ⟨by rw [m0]; rfl, by rw [m0]; rfl, by rw [m0]; rfl⟩, by rw [m0]; rfl, by rw [m0]; rfl, by decide, ⟨Or.inl rfl, mRk 23 (by decide), mRk 24 (by decide)⟩, ⟨Ar_nil _, Ar_nil _, Ar_nil _, Ar_nil _, (fun x hx => by cases hx)⟩, fun l hl => ⟨by rw [mZr 28 (by decide)]; rfl, (fun i s hs => by cases hs)⟩, fun l hl => ⟨by rw [mZj 26 (by decide)]; rfl, by rw [mZj 27 (by decide)]; rfl⟩, ⟨(fun x hx => by cases hx), fun l hl => rfl⟩⟩, by rw [m0]; rfl, by rw [m0]; rfl, by rw [m0]; rfl⟩, by rw [mj0]; rfl, by rw [mj0]; rfl⟩
  refine ⟨513, Nat.le_refl _, ?_⟩
  have ll := law_loop hC hA (xs := xs) hLn (rComp nL W nB) (rComp_D nL W nB) (fun n hn v A hI => rComp_P hC hI) (fun n hn v A M Kn hR hS hI hK => l_compact hC hR hA hS hI hK) (fun n hn v A M Kn hM hS hI hK => n_compact hC hM hS hI hK) 513 0 M19 rfl (by decide) ⟨as0, hCS, hMS, as0_I nL W nB, hR, hM⟩
  rw [show nI (3 + 9 * 0) = 3 from rfl] at ll
  exact ll
