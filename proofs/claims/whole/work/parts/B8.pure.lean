/-! what was fetched: byteAt, taken -/
theorem LgO_z {n : Nat} {v : Int32} (hn2 : n < 2 ^ 31) : (0 ≤ v ∧ v ≤ nI n - 1) ↔ LgO n v := by
  rcases Nat.eq_zero_or_pos n with z | z
  · subst z
    constructor
    · rintro ⟨h1, h2⟩
      exact absurd (Int32.le_trans h1 h2) (by decide)
    · rintro ⟨h1, h2⟩
      exact absurd h2 (Int32.not_lt.mpr h1)
  · exact LgO_m z hn2
theorem Lie_flat {f : Nat → Int32} : ∀ {fs : List Bt} {a : Nat}, (∀ p, p ∈ pbs a fs → Lie f p.1 p.2) → Lie f a fs.flatten
  | [], _, _ => trivial
  | b :: bs, a, h => by
    rw [List.flatten_cons, Lie_app]
    exact ⟨h (a, b) (List.mem_cons_self ..), Lie_flat (fun p hp => h p (List.mem_cons_of_mem _ hp))⟩
theorem Lie_flat8 {f : Nat → Int32} : ∀ {fs : List Bt} {a : Nat}, (∀ p, p ∈ pbs a fs → Lie f p.1 (m8 p.2)) → Lie f a (m8 fs.flatten)
  | [], _, _ => trivial
  | b :: bs, a, h => by
    rw [List.flatten_cons, m8_app, Lie_app, m8_len]
    exact ⟨h (a, b) (List.mem_cons_self ..), Lie_flat8 (fun p hp => h p (List.mem_cons_of_mem _ hp))⟩
theorem flat_len : ∀ (fs : List Bt), fs.flatten.length = tot fs
  | [] => rfl
  | b :: bs => by
    rw [List.flatten_cons, List.length_append, flat_len bs]
    simp [tot]
def rByte (v : Int32) (A : AS) : Op := oB (LgO (tot (aF A)) v) (oR 0 ((aF A).flatten.getD v.toNatClampNeg 0 &&& 255).toInt64 A) (oR 1 0 A)
theorem rByte_D (v : Int32) (A : AS) : Det (rByte v A) := Det_B (fun _ => Det_R _ _ _) (fun _ => Det_R _ _ _)
theorem rByte_P {nL W nB n : Nat} {v : Int32} {A : AS} (h : AI nL W nB n A) : Pre nL W nB n (rByte v A) := by
  have up := AI_up h (Nat.le_add_right n KK)
  exact Pre_B (fun _ => Pre_R up) (fun _ => Pre_R up)
theorem l_byteAt {Y : Ly} {q : Nat → Nat → Nat} {nL W nB : Nat} {M : Mm} {A : AS} {n : Nat} {v : Int32} {Kn : Int32 → Mm → Prop} (hC : SC Y q nL W nB) (hR : SR q nL (mR M)) (hA : Rsl Y q) (hS : CS q nL W nB M A) (hI : AI nL W nB n A) (hK : KC q nL W nB (rByte v A) M Kn) : f_L_byteAt Y (q 0 0) v (q 21 0) M Kn := by
  have ht := hI.2.2.1.1
  obtain ⟨f1, f2, f3, f4⟩ := hS.2.2.2.1
  refine ⟨sk_0_0 hC, ?_⟩
  unfold f_X11_byteAt
  refine ⟨sk_0_0 hC, _, sr_0_0_5 hR, sk_0_6 hC, ?_⟩
  refine s_within (lo := 0) (hi := nI (tot (aF A)) - 1) rfl (by rw [f1]) (fun g => ⟨fun _ => ?_, fun z => absurd z (by decide)⟩) (fun g => ⟨fun z => absurd rfl z, fun _ => ⟨rfl, K_no (by decide) hK (Or.inr ⟨fun z => g ((LgO_z (by omega)).mpr z), rfl⟩) hS (Ec_refl _ _ _)⟩⟩)
  have g := (LgO_z (by omega)).mp g
  refine ⟨_, sr_0_0_5 hR, sk_0_6 hC, _, sr_0_6_0 hR, sk_0_7 hC, ?_⟩
  obtain ⟨i, hi, rfl⟩ := LgO_n (by omega) g
  refine ⟨by rw [sn_0_7 hC]; exact vp_in_nI (by omega) (by decide), ?_⟩
  have e := Lie_get (Lie_flat f4) (j := i) (by rw [flat_len]; exact hi)
  rw [Nat.zero_add] at e
  rw [nI_clamp (by omega), e]
  refine K_st hC hA hK (Or.inl ⟨g, ?_⟩) hS (Ec_refl _ _ _)
  rw [nI_clamp (by omega)]; rfl
theorem n_byteAt {Y : Ly} {q : Nat → Nat → Nat} {nL W nB : Nat} {M : Mm} {A : AS} {n : Nat} {v : Int32} {Kn : Int64 → Mm → Prop} (hC : SC Y q nL W nB) (hM : SM q (mR M)) (hS : MS q nL W nB M A) (hI : AI nL W nB n A) (hK : KM q nL W nB (rByte v A) M Kn) : f_X12_byteAt Y (q 20 0) v M (fun r M' => Kn r.toInt64 M') := by
  have ht := hI.2.2.1.1
  obtain ⟨f1, f2⟩ := hS.2.2.1
  have no : ¬ LgO (tot (aF A)) v → f_X12_byteAt_18 Y (q 20 0) v M (fun r M' => Kn r.toInt64 M') 1 := by
    intro g
    unfold f_X12_byteAt_18
    refine ⟨sk_20_0 hC, fun M3 e3 => ?_⟩
    have e3 : M3 = cd q M 1 := e3
    subst e3
    exact ⟨fun z => by rw [cd_0] at z; exact absurd z (by decide), fun _ => M_no hC (by decide) hK (Or.inr ⟨g, rfl⟩) hS⟩
  unfold f_X12_byteAt f_X12_byteAt_17
  rw [f1]
  refine ⟨fun g => no (fun z => Int32.not_lt.mpr z.1 g), fun g0 => ⟨sk_20_0 hC, fun g => no (fun z => Int32.not_lt.mpr g z.2), fun g1 => ?_⟩⟩
  have g : LgO (tot (aF A)) v := ⟨Int32.not_lt.mp g0, Int32.not_le.mp g1⟩
  unfold f_X12_byteAt_18 f_X12_byteAt_38
  refine ⟨sk_20_0 hC, fun M3 e3 => ?_⟩
  have e3 : M3 = cd q M 0 := e3
  subst e3
  refine ⟨fun _ => ⟨_, sm_32 hM, sk_20_33 hC, ?_⟩, fun z => absurd (by rw [cd_0]; decide) z⟩
  have S2 := cd_MS hC hS 0
  obtain ⟨i, hi, rfl⟩ := LgO_n (by omega) g
  refine ⟨by rw [sn_20_33 hC]; exact vp_in_nI (by omega) (by decide), ?_⟩
  have e := Lie_get (Lie_flat8 S2.2.2.1.2) (j := i) (by rw [m8_len, flat_len]; exact hi)
  rw [Nat.zero_add] at e
  refine hK (0, _, A) _ _ (Or.inl ⟨g, rfl⟩) S2 (Ec_H (cd_Ec hC 0 rfl)).1 (cd_0 _ _ _) (fun _ => ?_)
  rw [nI_clamp (by omega), e]
  have hil : i < (aF A).flatten.length := by rw [flat_len]; exact hi
  unfold m8
  rw [List.getD_eq_getElem?_getD, List.getElem?_map, List.getD_eq_getElem?_getD, List.getElem?_eq_getElem hil]
  rfl
def tkS (fs : List Bt) (k : Nat) (x : Nat × Bt × Nat × Rc) : Prop := tkR (pbs 0 fs) k = some (x.1, x.2.1, x.2.2.1) ∧ (rsB x.2.1)[x.2.2.1]? = some x.2.2.2
theorem tkS_fun {fs : List Bt} {k : Nat} (x y : Nat × Bt × Nat × Rc) (h : tkS fs k x) (h' : tkS fs k y) : x = y := by
  obtain ⟨a, b, c, d⟩ := x
  obtain ⟨a', b', c', d'⟩ := y
  obtain ⟨h1, h2⟩ := h
  obtain ⟨h3, h4⟩ := h'
  rw [h1] at h3
  cases h3
  rw [h2] at h4
  cases h4
  rfl
noncomputable def rTaken (v w : Int32) (A : AS) : Op := oB (0 ≤ v ∧ (0 ≤ w ∧ w ≤ 5)) (oB (tkR (pbs 0 (aF A)) v.toNatClampNeg = none) (oR 1 0 A) (oE (tkS (aF A) v.toNatClampNeg) (fun x => oR 0 (tkV x.2.1 (rp (rsB x.2.1) x.2.2.1) x.2.2.2 w) A))) (oR 1 0 A)
theorem rTaken_D (v w : Int32) (A : AS) : Det (rTaken v w A) := Det_B (fun _ => Det_B (fun _ => Det_R _ _ _) (fun _ => Det_E tkS_fun (fun _ _ => Det_R _ _ _))) (fun _ => Det_R _ _ _)
theorem rTaken_P {nL W nB n : Nat} {v w : Int32} {A : AS} (h : AI nL W nB n A) : Pre nL W nB n (rTaken v w A) := by
  have up := AI_up h (Nat.le_add_right n KK)
  exact Pre_B (fun _ => Pre_B (fun _ => Pre_R up) (fun _ => Pre_E (fun _ _ => Pre_R up))) (fun _ => Pre_R up)
def PTk : Nat → Nat → Nat → Prop := fun a b _ => a = 0 ∧ (b = 6 ∨ b = 9)
theorem l_taken {Y : Ly} {q : Nat → Nat → Nat} {nL W nB : Nat} {M : Mm} {A : AS} {n : Nat} {v w : Int32} {Kn : Int32 → Mm → Prop} (hC : SC Y q nL W nB) (hR : SR q nL (mR M)) (hA : Rsl Y q) (hS : CS q nL W nB M A) (hI : AI nL W nB n A) (hK : KC q nL W nB (rTaken v w A) M Kn) : f_L_taken Y (q 0 0) v w (q 21 0) M Kn := by
  have hd := sdims hC
  refine ⟨sk_0_0 hC, ?_⟩
  unfold f_X11_taken f_X11_taken_31
  have no : ∀ x : Int32, rTaken v w A (1, 0, A) → f_X11_taken_32 Y (q 0 0) w (fun r1 M1 => yK Y (q 21 0) = 102 ∧ (vp_in 0 (yN Y (q 21 0)) ∧ (∀ M2 : Mm, M2 = sJ M1 (q 21 0) (m1 (mJ M1 (q 21 0)) (0 : Int32).toNatClampNeg r1) → Kn 0 M2))) (fun E M1 => (E = iAE ∧ Kn 1 M1)) 0 M := fun _ h => ⟨fun z => absurd rfl z, fun _ => ⟨rfl, K_no (by decide) hK h hS (Ec_refl _ _ _)⟩⟩
  refine ⟨fun g => no 0 (Or.inr ⟨fun z => Int32.not_lt.mpr z.1 g, rfl⟩), fun g0 => s_within (lo := 0) (hi := 5) rfl rfl (fun gw => ⟨fun z => absurd z (by decide), fun _ => ⟨sk_0_0 hC, _, sr_0_0_5 hR, sk_0_6 hC, ?_⟩⟩) (fun g => ⟨fun _ => no 0 (Or.inr ⟨fun z => g z.2, rfl⟩), fun z => absurd rfl z⟩)⟩
  have gc : 0 ≤ v ∧ (0 ≤ w ∧ w ≤ 5) := ⟨Int32.not_lt.mp g0, gw⟩
  obtain ⟨k, hk, rfl⟩ := nI_of g0
  have cl : (nI k).toNatClampNeg = k := nI_clamp hk
  refine c_turnTo hC hR hS.2.2.2.1 hI.2.2.1 hk (fun e => ⟨fun _ => no 0 (Or.inl ⟨gc, Or.inl ⟨by rw [cl]; exact e, rfl⟩⟩), fun z => absurd rfl z⟩) ?_
  intro p b j c e1 e2 M' F h6 h64 k2 k3 k4 k5 k0 k1
  refine ⟨fun z => absurd z (by decide), fun _ => ?_⟩
  unfold f_X11_taken_32
  have hR' : SR q nL (mR M') := by rw [F.2]; exact hR
  refine ⟨fun _ => ⟨sk_0_0 hC, _, sr_0_0_5 hR', sk_0_6 hC, ?_⟩, fun z => absurd z (by decide)⟩
  obtain ⟨m1', m2'⟩ := tkR_mem e1
  obtain ⟨ph, pb'⟩ := pbs_hi m1'
  have ht := hI.2.2.1.1
  have E : Ec q PTk M M' := Ec_Fr hC F
  refine c_tell hC hR' ?_ (Nat.le_trans ph ht) (hI.2.2.1.2 b pb') h64 e2 k2 k3 k4 k5 k0 k1 gw ?_
  · rw [Ec_I E (fun j => by unfold PTk; omega)]
    exact hS.2.2.2.1.2.2.2 _ m1'
  · refine K_st hC hA hK (Or.inl ⟨gc, Or.inr ⟨(by rw [cl, e1]; exact (fun z => by cases z)), (p, b, j, c), ⟨by rw [cl]; exact e1, e2⟩, rfl⟩⟩) ?_ (Ec_mono E (fun a b j z => by unfold PTk at z; unfold Pc9; omega))
    obtain ⟨h0, h1, h2, h3, h4, h5, h7⟩ := hS
    refine ⟨by rw [(E.1 0 0 0 (by unfold PTk; omega)).1]; exact h0, TpC_ec h1 E (by unfold PTk; omega) (fun j => by unfold PTk; omega), DrC_ec h2 E (fun j => by unfold PTk; omega) (fun j => by unfold PTk; omega), ⟨by rw [h6 1 (by decide)]; exact h3.1, by rw [h6 2 (by decide)]; exact h3.2.1, ?_, ?_⟩, GC_ec h4 E (fun b j _ _ => by unfold PTk; omega), CL_ec h5 E (fun j => by unfold PTk; omega) (fun j => by unfold PTk; omega) (fun j => by unfold PTk; omega) (fun l b j hl => by unfold PTk; omega), NuC_ec h7 E (fun j _ => (E.1 0 11 j (by unfold PTk; omega)).1) (by unfold PTk; omega) (by unfold PTk; omega)⟩
    · rw [Ec_I E (fun j => by unfold PTk; omega)]; exact h3.2.2.1
    · rw [Ec_I E (fun j => by unfold PTk; omega)]; exact h3.2.2.2
theorem n_taken {Y : Ly} {q : Nat → Nat → Nat} {nL W nB : Nat} {M : Mm} {A : AS} {n : Nat} {v w : Int32} {Kn : Int64 → Mm → Prop} (hC : SC Y q nL W nB) (hM : SM q (mR M)) (hS : MS q nL W nB M A) (hI : AI nL W nB n A) (hK : KM q nL W nB (rTaken v w A) M Kn) : f_X12_taken Y (q 20 0) v w M Kn := by
  have no : rTaken v w A (1, 0, A) → ∀ M', MS q nL W nB M' A → Ef q Pm20 M M' → f_X12_taken_20 Y (q 20 0) w Kn (-1) M' := by
    intro h M' S' F'
    unfold f_X12_taken_20 f_X12_taken_33
    refine ⟨fun z => absurd z (by decide), fun _ => ⟨sk_20_0 hC, fun M5 e5 => ?_⟩⟩
    have e5 : M5 = cd q M' 1 := e5
    subst e5
    exact ⟨fun z => by rw [cd_0] at z; exact absurd z (by decide), fun _ => hK (1, 0, A) _ _ h (cd_MS hC S' 1) (Ef_trans F' (Ec_H (cd_Ec hC 1 rfl)).1) (cd_0 _ _ _) (fun z => absurd z (by dsimp only; decide))⟩
  unfold f_X12_taken f_X12_taken_9
  refine ⟨fun g => no (Or.inr ⟨fun z => Int32.not_lt.mpr z.2.1 g, rfl⟩) M hS (Ef_refl _ _ _), fun g1 => ⟨fun g2 => ⟨sk_20_0 hC, ?_⟩, fun g => no (Or.inr ⟨fun z => g z.2.2, rfl⟩) M hS (Ef_refl _ _ _)⟩⟩
  by_cases g0 : v < 0
  · unfold f_X12_seek
    refine LOOP3_inv (fun _ _ M3 => M3 = M) (fun _ _ _ => 0) ?_ _ _ _ rfl
    rintro x1 x2 M3 again rfl _
    unfold L_X12_seek_4 f_X12_seek_129
    have := no (Or.inr ⟨fun z => Int32.not_lt.mpr z.1 g0, rfl⟩) M3 hS (Ef_refl _ _ _)
    exact ⟨sk_20_0 hC, fun _ => this, fun _ => ⟨fun _ => this, fun z => absurd g0 z⟩⟩
  · have gc : 0 ≤ v ∧ (0 ≤ w ∧ w ≤ 5) := ⟨Int32.not_lt.mp g0, Int32.not_lt.mp g1, g2⟩
    obtain ⟨k, hk, rfl⟩ := nI_of g0
    have cl : (nI k).toNatClampNeg = k := nI_clamp hk
    have sc : ∀ M', Scr q M M' → MS q nL W nB M' A ∧ Ef q Pm20 M M' := by
      intro M' F
      have E6 : EfH q Qm M M' := EfH_mono (EfH_Scr hC F) (fun a b j z => by unfold P4 at z; unfold Qm; omega)
      exact ⟨MS_scr hC hS E6, Ef_mono E6.1 (fun a b j z => z.1)⟩
    refine m_seek hC hM hS.2.2.1 hI.2.2.1 hk (fun e M' F => no (Or.inl ⟨gc, Or.inl ⟨by rw [cl]; exact e, rfl⟩⟩) M' (sc M' F).1 (sc M' F).2) ?_
    intro p b j c e1 e2 M' F t49 t51 t47 t48 t50 t52
    obtain ⟨S', F'⟩ := sc M' F
    obtain ⟨m1', m2'⟩ := tkR_mem e1
    obtain ⟨ph, pb'⟩ := pbs_hi m1'
    have ht := hI.2.2.1.1
    have hM' : SM q (mR M') := Ef_SM F' hM
    refine m_tell hC hM' (S'.2.2.1.2 _ m1') (Nat.le_trans ph ht) (hI.2.2.1.2 b pb') e2 t49 t51 t47 t48 t50 t52 gc.2 ?_
    exact hK (0, _, A) _ _ (Or.inl ⟨gc, Or.inr ⟨(by rw [cl, e1]; exact (fun z => by cases z)), (p, b, j, c), ⟨by rw [cl]; exact e1, e2⟩, rfl⟩⟩) (cd_MS hC S' 0) (Ef_trans F' (Ec_H (cd_Ec hC 0 rfl)).1) (cd_0 _ _ _) (fun _ => rfl)
