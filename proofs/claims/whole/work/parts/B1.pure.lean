/-! the state, as both sides hold it -/
abbrev AS : Type := List Int32 × Dr × List Bt × GSt × (Nat → Int64) × LSt × Int64 × Int64
def aT (A : AS) : List Int32 := A.1
def aD (A : AS) : Dr := A.2.1
def aF (A : AS) : List Bt := A.2.2.1
def aG (A : AS) : GSt := A.2.2.2.1
def aS (A : AS) : Nat → Int64 := A.2.2.2.2.1
def aL (A : AS) : LSt := A.2.2.2.2.2.1
def aR (A : AS) : Int64 := A.2.2.2.2.2.2.1
def aN (A : AS) : Int64 := A.2.2.2.2.2.2.2
def NuC (q : Nat → Nat → Nat) (M : Mm) (L : LSt) (rs is : Int64) : Prop := Lie (mI M (q 0 11)) 0 (pb rs 8) ∧ (lD L = 0 → mJ M (q 0 0) 8 = is ∧ mJ M (q 0 0) 9 = rs)
def CS (q : Nat → Nat → Nat) (nL W nB : Nat) (M : Mm) (A : AS) : Prop := mI M (q 0 0) 0 = nI nL ∧ TpC q M (aT A) ∧ DrC q M (aD A) ∧ FetC q M (aF A) ∧ GC q M (aG A) ∧ CL q nL W nB M (aS A) (aL A) ∧ NuC q M (aL A) (aR A) (aN A)
def MS (q : Nat → Nat → Nat) (nL W nB : Nat) (M : Mm) (A : AS) : Prop := TpM q M (aT A) ∧ DrM q M (aD A) ∧ FetM q M (aF A) ∧ GM q M (aG A) ∧ ML q nL W nB M (aS A) (aL A) ∧ mJ M (q 20 0) 8 = aR A ∧ mJ M (q 20 0) 9 = aN A
def AI (nL W nB n : Nat) (A : AS) : Prop := TpI (aT A) ∧ DrI (aD A) ∧ FetOK (aF A) ∧ GI n (aG A) ∧ IL nL W nB n (aS A) (aL A)
theorem Ec_I {q : Nat → Nat → Nat} {P : Nat → Nat → Nat → Prop} {M M' : Mm} (h : Ec q P M M') {a b : Nat} (hn : ∀ j, ¬ P a b j) : mI M' (q a b) = mI M (q a b) := funext (fun j => (h.1 a b j (hn j)).1)
theorem Ec_J {q : Nat → Nat → Nat} {P : Nat → Nat → Nat → Prop} {M M' : Mm} (h : Ec q P M M') {a b : Nat} (hn : ∀ j, ¬ P a b j) : mJ M' (q a b) = mJ M (q a b) := funext (fun j => (h.1 a b j (hn j)).2)
theorem TpC_ec {q : Nat → Nat → Nat} {P : Nat → Nat → Nat → Prop} {M M' : Mm} {x : List Int32} (h : TpC q M x) (e : Ec q P M M') (p0 : ¬ P 0 0 2) (p1 : ∀ j, ¬ P 0 1 j) : TpC q M' x := ⟨by rw [(e.1 _ _ _ p0).1]; exact h.1, by rw [Ec_I e p1]; exact h.2⟩
theorem DrC_ec {q : Nat → Nat → Nat} {P : Nat → Nat → Nat → Prop} {M M' : Mm} {x : Dr} (h : DrC q M x) (e : Ec q P M M') (p2 : ∀ j, ¬ P 0 2 j) (p3 : ∀ j, ¬ P 0 3 j) : DrC q M' x := by
  unfold DrC; rw [Ec_I e p2, Ec_I e p3]; exact h
theorem FetC_ec {q : Nat → Nat → Nat} {P : Nat → Nat → Nat → Prop} {M M' : Mm} {x : List Bt} (h : FetC q M x) (e : Ec q P M M') (p6 : ∀ j, ¬ P 0 6 j) (p7 : ∀ j, ¬ P 0 7 j) (p8 : ∀ j, ¬ P 0 8 j) : FetC q M' x := by
  unfold FetC; rw [Ec_I e p6, Ec_I e p7, Ec_I e p8]; exact h
theorem GC_ec {q : Nat → Nat → Nat} {P : Nat → Nat → Nat → Prop} {M M' : Mm} {x : GSt} (h : GC q M x) (e : Ec q P M M') (p : ∀ b j, 26 ≤ b → b ≤ 32 → ¬ P 0 b j) : GC q M' x := by
  unfold GC
  rw [Ec_I e (fun j => p 26 j (by decide) (by decide)), Ec_I e (fun j => p 27 j (by decide) (by decide)), Ec_I e (fun j => p 28 j (by decide) (by decide)), Ec_I e (fun j => p 29 j (by decide) (by decide)), Ec_I e (fun j => p 30 j (by decide) (by decide)), Ec_I e (fun j => p 31 j (by decide) (by decide)), Ec_I e (fun j => p 32 j (by decide) (by decide))]
  exact h
theorem CL_ec {q : Nat → Nat → Nat} {nL W nB : Nat} {P : Nat → Nat → Nat → Prop} {M M' : Mm} {st : Nat → Int64} {L : LSt} (h : CL q nL W nB M st L) (e : Ec q P M M') (p10 : ∀ j, ¬ P 0 10 j) (p11 : ∀ j, ¬ P 0 11 j) (p13 : ∀ j, ¬ P 0 13 j) (pl : ∀ l b j, l ≤ nL → ¬ P (l + 1) b j) : CL q nL W nB M' st L := by
  obtain ⟨⟨s1, s2, s3⟩, h2, h3, h4, h5, h6⟩ := h
  have tI : ∀ l b, l ≤ nL → mI M' (q (l + 1) b) = mI M (q (l + 1) b) := fun l b hl => Ec_I e (fun j => pl l b j hl)
  have tJ : ∀ l b, l ≤ nL → mJ M' (q (l + 1) b) = mJ M (q (l + 1) b) := fun l b hl => Ec_J e (fun j => pl l b j hl)
  refine ⟨⟨by rw [Ec_I e p13]; exact s1, by rw [Ec_I e p13]; exact s2, fun l hl => by rw [tI l 0 hl]; exact s3 l hl⟩, by rw [Ec_I e p11]; exact h2, by rw [Ec_I e p10]; exact h3, by rw [Ec_I e p10]; exact h4, by rw [Ec_I e p10]; exact h5, fun z => ?_⟩
  obtain ⟨l1, l2, l3⟩ := h6 z
  refine ⟨by rw [Ec_I e p13]; exact l1, by rw [Ec_I e p13]; exact l2, fun l hl => ?_⟩
  obtain ⟨t1, t2, t3, t4⟩ := l3 l hl
  exact ⟨by rw [tI l 0 hl]; exact t1, TabM_of t2 (fun c => tI l c hl), by rw [tJ l 0 hl]; exact t3, by rw [tJ l 0 hl]; exact t4⟩
theorem NuC_ec {q : Nat → Nat → Nat} {P : Nat → Nat → Nat → Prop} {M M' : Mm} {L : LSt} {rs is : Int64} (h : NuC q M L rs is) (e : Ec q P M M') (p11 : ∀ j, j < 1024 → mI M' (q 0 11) j = mI M (q 0 11) j) (p8 : ¬ P 0 0 8) (p9 : ¬ P 0 0 9) : NuC q M' L rs is :=
  ⟨Lie_same h.1 (fun j _ hj => p11 j (by rw [pb_len] at hj; omega)), fun z => by rw [(e.1 _ _ _ p8).2, (e.1 _ _ _ p9).2]; exact h.2 z⟩
theorem NuC_L {q : Nat → Nat → Nat} {M : Mm} {L L' : LSt} {rs is : Int64} (h : NuC q M L rs is) (e : lD L' = 0 → lD L = 0) : NuC q M L' rs is := ⟨h.1, fun z => h.2 (e z)⟩
theorem TpM_ec {q : Nat → Nat → Nat} {P : Nat → Nat → Nat → Prop} {M M' : Mm} {x : List Int32} (h : TpM q M x) (e : Ef q P M M') (p0 : ¬ P 20 0 11) (p1 : ∀ j, ¬ P 20 11 j) : TpM q M' x := ⟨by rw [(e.1 _ _ _ p0).1]; exact h.1, by rw [Ef_I e p1]; exact h.2⟩
theorem DrM_ec {q : Nat → Nat → Nat} {P : Nat → Nat → Nat → Prop} {M M' : Mm} {x : Dr} (h : DrM q M x) (e : Ef q P M M') (p0 : ¬ P 20 0 12) (p : ∀ b j, 14 ≤ b → b ≤ 18 → ¬ P 20 b j) : DrM q M' x := by
  refine ⟨by rw [(e.1 _ _ _ p0).1]; exact h.1, fun k hk => ?_⟩
  rw [Ef_J e (fun j => p 14 j (by decide) (by decide)), Ef_I e (fun j => p 15 j (by decide) (by decide)), Ef_J e (fun j => p 16 j (by decide) (by decide)), Ef_I e (fun j => p 17 j (by decide) (by decide)), Ef_I e (fun j => p 18 j (by decide) (by decide))]
  exact h.2 k hk
theorem FetM_ec {q : Nat → Nat → Nat} {P : Nat → Nat → Nat → Prop} {M M' : Mm} {x : List Bt} (h : FetM q M x) (e : Ef q P M M') (p0 : ¬ P 20 0 33) (p : ∀ j, ¬ P 20 33 j) : FetM q M' x := by
  refine ⟨by rw [(e.1 _ _ _ p0).1]; exact h.1, ?_⟩
  rw [Ef_I e p]; exact h.2
/-- what the class does leaves the model, and the other way -/
def Pc9 : Nat → Nat → Nat → Prop := fun a _ _ => a ≤ 9
def Pm20 : Nat → Nat → Nat → Prop := fun a _ _ => a = 20
theorem MS_out {Y : Ly} {q : Nat → Nat → Nat} {nL W nB : Nat} {P : Nat → Nat → Nat → Prop} {M M' : Mm} {A : AS} (hC : SC Y q nL W nB) (h : MS q nL W nB M A) (e : Ec q P M M') (hP : ∀ b j, ¬ P 20 b j) : MS q nL W nB M' A := by
  obtain ⟨h1, h2, h3, h4, h5, h6, h7⟩ := h
  have E := (Ec_H e).1
  refine ⟨TpM_ec h1 E (hP _ _) (hP _), DrM_ec h2 E (hP _ _) (fun b j _ _ => hP b j), FetM_ec h3 E (hP _ _) (hP _), GM_ef hC h4 E (hP _ _) (fun b j _ _ => hP b j), ML_ef h5 (Ec_H e) (fun a b j z => ?_) (hP _ _) (hP _ _) (hP _ _), by rw [(e.1 _ _ _ (hP 0 8)).2]; exact h6, by rw [(e.1 _ _ _ (hP 0 9)).2]; exact h7⟩
  have : a = 20 := z.1
  subst this
  exact hP b j
theorem CS_out {Y : Ly} {q : Nat → Nat → Nat} {nL W nB : Nat} {P : Nat → Nat → Nat → Prop} {M M' : Mm} {A : AS} (hC : SC Y q nL W nB) (h : CS q nL W nB M A) (e : Ef q P M M') (hP : ∀ a b j, a ≤ 9 → ¬ P a b j) : CS q nL W nB M' A := by
  have hd := sdims hC
  obtain ⟨M2, hM2⟩ : ∃ M2 : Mm, M2 = (mI M', mJ M', mR M) := ⟨_, rfl⟩
  have e' : Ec q P M M2 := by rw [hM2]; exact ⟨e.1, rfl⟩
  have key : CS q nL W nB M2 A := by
    obtain ⟨h0, h1, h2, h3, h4, h5, h6⟩ := h
    have z : ∀ b j, ¬ P 0 b j := fun b j => hP 0 b j (by decide)
    exact ⟨by rw [(e'.1 _ _ _ (z 0 0)).1]; exact h0, TpC_ec h1 e' (z _ _) (z _), DrC_ec h2 e' (z _) (z _), FetC_ec h3 e' (z _) (z _) (z _), GC_ec h4 e' (fun b j _ _ => z b j), CL_ec h5 e' (z _) (z _) (z _) (fun l b j hl => hP _ _ _ (by omega)), NuC_ec h6 e' (fun j _ => (e'.1 0 11 j (z _ _)).1) (z _ _) (z _ _)⟩
  rw [hM2] at key
  exact key
/-! the questions that go before -/
theorem c_power {Y : Ly} {q : Nat → Nat → Nat} {nL W nB : Nat} {M : Mm} {st : Nat → Int64} {L : LSt} {Kn : Mm → Prop} {Xn : String → Mm → Prop} (hC : SC Y q nL W nB) (hR : SR q nL (mR M)) (hCL : CL q nL W nB M st L) (h : lD L = 0 → Kn M) (h2 : ¬ lD L = 0 → Xn iSE M) : f_X11_needPower Y (q 0 0) M Kn Xn := by
  unfold f_X11_needPower f_X11_needPower_15
  refine ⟨sk_0_0 hC, _, sr_0_0_6 hR, sk_0_10 hC, ?_⟩
  rw [hCL.2.2.2.2.1]
  exact ⟨fun g => ⟨fun z => absurd rfl z, fun _ => h2 g⟩, fun g => ⟨fun _ => h g, fun z => absurd z (by decide)⟩⟩
def LgO (n : Nat) (v : Int32) : Prop := 0 ≤ v ∧ v < nI n
theorem LgO_n {n : Nat} {v : Int32} (hn : n < 2 ^ 31) (h : LgO n v) : ∃ l, l < n ∧ v = nI l := by
  obtain ⟨l, hl, rfl⟩ := nI_of (Int32.not_lt.mpr h.1)
  exact ⟨l, (nI_ltI hl hn).mp h.2, rfl⟩
theorem LgO_of {n l : Nat} (hn : n < 2 ^ 31) (h : l < n) : LgO n (nI l) := ⟨nI_ge0 (by omega), (nI_ltI (by omega) hn).mpr h⟩
theorem LgO_m {n : Nat} {v : Int32} (hn : 1 ≤ n) (hn2 : n < 2 ^ 31) : (0 ≤ v ∧ v ≤ nI n - 1) ↔ LgO n v := by
  have e : nI n - 1 = nI (n - 1) := pk_sub (b := 1) hn
  rw [e]
  constructor
  · rintro ⟨h1, h2⟩
    obtain ⟨l, hl, rfl⟩ := nI_of (Int32.not_lt.mpr h1)
    rw [nI_cmp hl (by omega)] at h2
    exact LgO_of hn2 (by omega)
  · intro h
    obtain ⟨l, hl, rfl⟩ := LgO_n hn2 h
    exact ⟨h.1, by rw [nI_cmp (by omega) (by omega)]; omega⟩
theorem LgO_s {n : Nat} {v : Int32} (hn2 : n + 1 < 2 ^ 31) : (0 ≤ v ∧ v ≤ nI n) ↔ LgO (n + 1) v := by
  have := LgO_m (n := n + 1) (v := v) (by omega) hn2
  rwa [show nI (n + 1) - 1 = nI n from pk_sub (b := 1) (by omega)] at this
theorem c_isFor {Y : Ly} {q : Nat → Nat → Nat} {nL W nB : Nat} {M : Mm} {v : Int32} {Kn : Int32 → Mm → Prop} (hC : SC Y q nL W nB) (h0 : mI M (q 0 0) 0 = nI nL) (h1 : LgO nL v → Kn 1 M) (h2 : ¬ LgO nL v → Kn 0 M) : f_X11_isForProducers Y (q 0 0) v M Kn := by
  have hd := sdims hC
  unfold f_X11_isForProducers
  refine ⟨sk_0_0 hC, s_within (lo := 0) (hi := nI nL - 1) rfl (by rw [h0]) (fun g => ⟨Or.inr rfl, h1 ((LgO_m (by omega) (by omega)).mp g)⟩) (fun g => ⟨Or.inl rfl, h2 (fun z => g ((LgO_m (by omega) (by omega)).mpr z))⟩)⟩
theorem c_isLog {Y : Ly} {q : Nat → Nat → Nat} {nL W nB : Nat} {M : Mm} {v : Int32} {Kn : Int32 → Mm → Prop} (hC : SC Y q nL W nB) (h0 : mI M (q 0 0) 0 = nI nL) (h1 : LgO (nL + 1) v → Kn 1 M) (h2 : ¬ LgO (nL + 1) v → Kn 0 M) : f_X11_isLog Y (q 0 0) v M Kn := by
  have hd := sdims hC
  unfold f_X11_isLog
  refine ⟨sk_0_0 hC, s_within (lo := 0) (hi := nI nL) rfl (by rw [h0]) (fun g => ⟨Or.inr rfl, h1 ((LgO_s (by omega)).mp g)⟩) (fun g => ⟨Or.inl rfl, h2 (fun z => g ((LgO_s (by omega)).mpr z))⟩)⟩
/-- the same by the model -/
theorem m_isFor {nL : Nat} {v w : Int32} {A B : Prop} (hw : w = nI nL) (h1 : LgO nL v → A) (h2 : ¬ LgO nL v → B) : (v < 0 → B) ∧ (¬ v < 0 → ((w ≤ v → B) ∧ (¬ w ≤ v → A))) := by
  subst hw
  exact ⟨fun g => h2 (fun z => Int32.not_lt.mpr z.1 g), fun g => ⟨fun g2 => h2 (fun z => Int32.not_lt.mpr g2 z.2), fun g2 => h1 ⟨Int32.not_lt.mp g, Int32.not_le.mp g2⟩⟩⟩
theorem cd_MS {Y : Ly} {q : Nat → Nat → Nat} {nL W nB : Nat} {M : Mm} {A : AS} (hC : SC Y q nL W nB) (h : MS q nL W nB M A) (v : Int32) : MS q nL W nB (cd q M v) A := by
  obtain ⟨h1, h2, h3, h4, h5, h6, h7⟩ := h
  have E : Ec q P0 M (cd q M v) := cd_Ec hC v ⟨rfl, rfl, rfl⟩
  have F := (Ec_H E).1
  refine ⟨cd_T hC h1 v, cd_D hC h2 v, FetM_ec h3 F (by unfold P0; omega) (fun j => by unfold P0; omega), GM_ef hC h4 F (by unfold P0; omega) (fun b j _ _ => by unfold P0; omega), ML_ef h5 (Ec_H E) (fun a b j z => by unfold PLg at z; unfold P0; omega) (by unfold P0; omega) (by unfold P0; omega) (by unfold P0; omega), h6, h7⟩
