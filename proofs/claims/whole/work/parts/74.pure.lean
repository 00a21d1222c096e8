theorem wf_cons {c : Bool} {p : Int32} {xs : List (Bool × Int32)} (hp : p ≠ -1) (h : wfF ((c, p) :: xs) = -1) : c = true ∧ wfF xs = -1 := by
  cases c with
  | true => exact ⟨rfl, h⟩
  | false => exact absurd h hp
theorem wf_facts {b : Bt} (h : wfF (hdC b) = -1) : baB b = 0 ∧ beS (fB b) 23 4 = beS (fB b) 57 4 - 1 ∧ okT (ftB b) ∧ okT (gtB b) ∧ (-1 ≤ prB b ∧ prB b ≤ 1125899906842624) ∧ okN (prB b) (beS (fB b) 53 4) = true ∧ (1 ≤ beS (fB b) 57 4 ∧ beS (fB b) 57 4 ≤ 1000) := by
  unfold hdC at h
  obtain ⟨a1, h⟩ := wf_cons (by decide) h
  obtain ⟨a2, h⟩ := wf_cons (by decide) h
  obtain ⟨a3, h⟩ := wf_cons (by decide) h
  obtain ⟨a4, h⟩ := wf_cons (by decide) h
  obtain ⟨a5, h⟩ := wf_cons (by decide) h
  obtain ⟨a6, h⟩ := wf_cons (by decide) h
  obtain ⟨a7, h⟩ := wf_cons (by decide) h
  obtain ⟨a8, h⟩ := wf_cons (by decide) h
  obtain ⟨a9, h⟩ := wf_cons (by decide) h
  obtain ⟨a10, h⟩ := wf_cons (by decide) h
  obtain ⟨a11, h⟩ := wf_cons (by decide) h
  rw [decide_eq_true_eq] at a1 a5 a6 a7 a8 a11
  exact ⟨a1, a5, a6, a7, a8, a10, a11⟩
theorem cnt_n {b : Bt} (h : 1 ≤ beS (fB b) 57 4 ∧ beS (fB b) 57 4 ≤ 1000) : ∃ n, 1 ≤ n ∧ n ≤ 1000 ∧ beS (fB b) 57 4 = lN n ∧ cntB b = nI n := by
  obtain ⟨k, hk, e⟩ := pk_lOf (x := beS (fB b) 57 4) (by
    intro z
    have := h.1
    rw [Int64.le_iff_toInt_le] at this
    rw [Int64.lt_iff_toInt_lt] at z
    have z' : (beS (fB b) 57 4).toInt < 0 := z
    have t' : (1 : Int) ≤ (beS (fB b) 57 4).toInt := this
    omega)
  have h1 := h.1
  have h2 := h.2
  rw [e, show (1 : Int64) = lN 1 from rfl, pk_lLE (by decide) hk] at h1
  rw [e, show (1000 : Int64) = lN 1000 from rfl, pk_lLE hk (by decide)] at h2
  refine ⟨k, h1, h2, e, ?_⟩
  unfold cntB b_countOf
  rw [Nat.zero_add, e, lN_i]
theorem bt_fB {f : Nat → Int32} {a : Nat} {b : Bt} (h : Lie f a b) (h61 : 61 ≤ b.length) : b_true f a b.length ↔ b_true (fB b) 0 b.length := by
  unfold b_true
  rw [beS_fB h (by omega), ckC_congr (g := fB b) (a' := 0 + 21) (n := b.length - 21) (fun j hj => by rw [Nat.add_assoc, Nat.zero_add]; exact Lie_fB h (21 + j) (by omega)), Nat.zero_add]
theorem sz_fB {f : Nat → Int32} {a : Nat} {b : Bt} (h : Lie f a b) (h61 : 61 ≤ b.length) : b_sizeOf f a = b_sizeOf (fB b) 0 := by
  unfold b_sizeOf
  rw [beS_fB h (by omega), Nat.zero_add]
def Exm (tp : Bt) (kd pl : Int32) : Prop := ((tp.length < 61 ∨ ¬ b_sizeOf (fB tp) 0 = nI tp.length) ∧ kd = 1 ∧ pl = 8) ∨ (61 ≤ tp.length ∧ b_sizeOf (fB tp) 0 = nI tp.length ∧ ((¬ wfF (hdC tp) = -1 ∧ kd = 2 ∧ pl = wfF (hdC tp)) ∨ (wfF (hdC tp) = -1 ∧ ((¬ b_true (fB tp) 0 tp.length ∧ kd = 3 ∧ pl = 17) ∨ (b_true (fB tp) 0 tp.length ∧ ∃ n, n ≤ 1000 ∧ cntB tp = nI n ∧ ExR (ftB tp) (gtB tp) n 0 61 (tp.drop 61) 0 kd pl)))))
theorem Exm_fun {tp : Bt} {x y x' y' : Int32} (h : Exm tp x y) (h' : Exm tp x' y') : x = x' ∧ y = y' := by
  rcases h with ⟨a, b, c⟩ | ⟨a0, a, h⟩ <;> rcases h' with ⟨a', b', c'⟩ | ⟨a0', a', h'⟩
  · exact ⟨by rw [b, b'], by rw [c, c']⟩
  · rcases a with a | a
    · omega
    · exact absurd a' a
  · rcases a' with a' | a'
    · omega
    · exact absurd a a'
  · rcases h with ⟨b, c, d⟩ | ⟨b, h⟩ <;> rcases h' with ⟨b', c', d'⟩ | ⟨b', h'⟩
    · exact ⟨by rw [c, c'], by rw [d, d']⟩
    · exact absurd b' b
    · exact absurd b b'
    · rcases h with ⟨c, d, e⟩ | ⟨c, n, hn, hc, h⟩ <;> rcases h' with ⟨c', d', e'⟩ | ⟨c', n', hn', hc', h'⟩
      · exact ⟨by rw [d, d'], by rw [e, e']⟩
      · exact absurd c' c
      · exact absurd c c'
      · rw [hc, nI_eq (by omega) (by omega)] at hc'
        subst hc'
        exact ExR_fun h h'
set_option maxRecDepth 4000 in
theorem c_examine {Y : Ly} {q : Nat → Nat → Nat} {nL W nB : Nat} {tp : Bt} {M : Mm} {Kn : Mm → Prop} (hC : SC Y q nL W nB) (hR : SR q nL (mR M)) (hL : Lie (mI M (q 0 1)) 0 tp) (hl : tp.length ≤ 16384)
    (h : ∀ kd pl M', Exm tp kd pl → Fr q F45 M M' → mI M' (q 0 4) 0 = kd → mI M' (q 0 4) 1 = pl → Kn M') : f_X5_examine Y (q 0 4) (q 0 1) (nI tp.length) M Kn := by
  have k1 := sk_0_1 hC
  have n1 := sn_0_1 hC
  unfold f_X5_examine f_X5_examine_21 f_X5_examine_73
  refine ⟨sk_0_4 hC, s_tell (sk_0_4 hC) ?_⟩
  obtain ⟨M1, hM1⟩ : ∃ M1, M1 = sI M (q 0 4) (m1 (m1 (mI M (q 0 4)) 0 0) 1 (-1)) := ⟨_, rfl⟩
  rw [← hM1]
  have F1 : Fr q F45 M M1 := by rw [hM1]; exact Fr_sI _ _ _ _ ⟨rfl, Or.inl rfl⟩
  have z0 : mI M1 (q 0 4) 0 = 0 := by rw [hM1, mI_sI_self]; simp [m1]
  have z1 : mI M1 (q 0 4) 1 = -1 := by rw [hM1, mI_sI_self]; simp [m1]
  have i1 : mI M1 (q 0 1) = mI M (q 0 1) := Fr_I hC F1 (by unfold F45; omega)
  clear hM1
  have tell : ∀ kd pl, Exm tp kd pl → f_X5_tell Y (q 0 4) kd pl M1 (fun M4 => Kn M4) := by
    intro kd pl hE
    refine s_tell (sk_0_4 hC) (h kd pl _ hE (Fr_trans F1 (Fr_sI _ _ _ _ ⟨rfl, Or.inl rfl⟩)) ?_ ?_)
    · rw [mI_sI_self]; simp [m1]
    · rw [mI_sI_self]; simp [m1]
  rw [show (61 : Int32) = nI 61 from rfl, nI_ltI (by omega) (by omega)]
  refine ⟨fun c => tell 1 8 (Or.inl ⟨Or.inl c, rfl, rfl⟩), fun c => ?_⟩
  have h61 : 61 ≤ tp.length := by omega
  refine s_sizeOf (a := 0) k1 (by omega) (by omega) ?_
  rw [i1, sz_fB hL h61]
  refine ⟨fun c2 => ?_, fun c2 => tell 1 8 (Or.inl ⟨Or.inr c2, rfl, rfl⟩)⟩
  refine c_wrong hC (by rw [i1]; exact hL) h61 ⟨fun c3 => ?_, fun c3 => tell 2 _ (Or.inr ⟨h61, c2, Or.inl ⟨c3, rfl, rfl⟩⟩)⟩
  refine s_hasTrueChecksum (a := 0) k1 (by omega) (by omega) (by omega) ?_
  rw [i1, bt_fB hL h61]
  rintro r (⟨rfl, hr⟩ | ⟨rfl, hr⟩)
  · refine ⟨fun _ => ?_, fun z => absurd z (by decide)⟩
    obtain ⟨n, hn1, hn2, hn3, hn4⟩ := cnt_n (wf_facts c3).2.2.2.2.2.2
    refine c_exRec hC (by rw [F1.2]; exact hR) (by rw [i1]; exact hL) h61 hl hn4 (by omega) z0 z1 ?_
    intro kd pl M' hE F' e0 e1
    exact h kd pl M' (Or.inr ⟨h61, c2, Or.inr ⟨c3, Or.inr ⟨hr, n, hn2, hn4, hE⟩⟩⟩) (Fr_trans F1 F') e0 e1
  · exact ⟨fun z => absurd rfl z, fun _ => tell 3 17 (Or.inr ⟨h61, c2, Or.inr ⟨c3, Or.inl ⟨hr, rfl, rfl⟩⟩⟩)⟩
/-! the same by the model -/
def fld (q : Nat → Nat → Nat) (M : Mm) (p : Int32) : Mm := if p = -1 then M else sI M (q 20 0) (m1 (m1 (mI M (q 20 0)) 44 2) 45 p)
def stp (p : Int32) (c : Bool) (w : Int32) : Int32 := if p = -1 then (if c = true then -1 else w) else p
theorem fld_R (q : Nat → Nat → Nat) (M : Mm) (p : Int32) : mR (fld q M p) = mR M := by unfold fld; split <;> rfl
theorem fld_n {Y : Ly} {q : Nat → Nat → Nat} {nL W nB : Nat} (hC : SC Y q nL W nB) (M : Mm) (p : Int32) {b : Nat} (h : b ≠ 0) : mI (fld q M p) (q 20 b) = mI M (q 20 b) := by
  unfold fld; split
  · rfl
  · exact I_ne hC _ _ (by omega)
theorem fld_j {q : Nat → Nat → Nat} (M : Mm) (p : Int32) {j : Nat} (h4 : j ≠ 44) (h5 : j ≠ 45) : mI (fld q M p) (q 20 0) j = mI M (q 20 0) j := by
  unfold fld; split
  · rfl
  · rw [mI_sI_self]; simp [m1, h4, h5]
theorem fld_44 {q : Nat → Nat → Nat} {M : Mm} {p : Int32} (h0 : mI M (q 20 0) 44 = 0) : mI (fld q M p) (q 20 0) 44 = 0 ↔ p = -1 := by
  unfold fld
  by_cases e : p = -1
  · rw [if_pos e]; simp [e, h0]
  · rw [if_neg e, mI_sI_self]; simp [m1, e]
theorem m_field {Y : Ly} {q : Nat → Nat → Nat} {nL W nB : Nat} {M : Mm} {p w y : Int32} {c : Bool} {Kn : Mm → Prop} (hC : SC Y q nL W nB) (h0 : mI M (q 20 0) 44 = 0) (hy : y = if c = true then 1 else 0) (hw : ¬ w = -1) (h : Kn (fld q M (stp p c w))) : f_X12_field Y (q 20 0) y w (fld q M p) Kn := by
  unfold f_X12_field f_X12_field_21
  rw [fld_44 h0]
  unfold stp at h
  refine ⟨sk_20_0 hC, fun e => by rwa [if_neg e] at h, fun e => ?_⟩
  rw [if_pos e] at h
  subst e
  have e1 : fld q M (-1) = M := if_pos rfl
  rw [e1]
  cases c with
  | true =>
    simp only [if_true] at hy h
    rw [e1] at h
    exact ⟨fun _ => h, fun z => by rw [hy] at z; exact absurd z (by decide)⟩
  | false =>
    simp only [Bool.false_eq_true, if_false] at hy h
    refine ⟨fun z => absurd hy z, fun _ M5 e5 M6 e6 => ?_⟩
    subst e5
    rw [mI_sI_self, sI_sI] at e6
    subst e6
    unfold fld at h
    rw [if_neg hw] at h
    exact h
