/-! room for the packed segments -/
def Rms (lo W nB : Nat) (F ks : List Nat) : Prop := ∀ (i : Nat) k, ks[i]? = some k → Lst lo W nB (F ++ ks.take i) k
def RmN (lo W nB : Nat) (F : List Nat) (n : Nat) : Prop := ∃ ks, ks.length < n ∧ Rms lo W nB F ks ∧ NoR lo W nB (F ++ ks)
theorem Rms_0 (lo W nB : Nat) (F : List Nat) : Rms lo W nB F [] := fun i k h => by cases h
theorem Rms_s {lo W nB : Nat} {F ks : List Nat} {k : Nat} (h : Rms lo W nB F ks) (hk : Lst lo W nB (F ++ ks) k) : Rms lo W nB F (ks ++ [k]) := by
  intro i k' e
  by_cases z : i < ks.length
  · rw [List.getElem?_append_left z] at e
    rw [List.take_append_of_le_length (by omega)]
    exact h i k' e
  · rw [List.getElem?_append_right (by omega)] at e
    have hi : i - ks.length = 0 := by
      by_cases w : i - ks.length = 0
      · exact w
      · rw [List.getElem?_eq_none (by simp; omega)] at e; cases e
    rw [hi] at e
    cases e
    rw [show i = ks.length from by omega, List.take_append_of_le_length (Nat.le_refl _), List.take_length]
    exact hk
theorem Rms_pre {lo W nB : Nat} {F ks js : List Nat} (h : Rms lo W nB F ks) (k : Rms lo W nB F js) : ∀ i, i ≤ ks.length → i ≤ js.length → ks.take i = js.take i
  | 0, _, _ => by simp
  | i + 1, h1, h2 => by
    have ih := Rms_pre h k i (by omega) (by omega)
    obtain ⟨a, ha⟩ := lt_some (show i < ks.length by omega)
    obtain ⟨b, hb⟩ := lt_some (show i < js.length by omega)
    have e1 := h i a ha
    have e2 := k i b hb
    rw [ih] at e1
    rw [take_s ha, take_s hb, ih, Lst_fun e1 e2]
theorem Rms_fun {lo W nB : Nat} {F ks js : List Nat} (h : Rms lo W nB F ks) (k : Rms lo W nB F js) (e : ks.length = js.length) : ks = js := by
  have := Rms_pre h k ks.length (Nat.le_refl _) (by omega)
  rw [List.take_length, e, List.take_length] at this
  exact this
theorem Rms_no {lo W nB n : Nat} {F ks : List Nat} (h : Rms lo W nB F ks) (e : ks.length = n) (k : RmN lo W nB F n) : False := by
  obtain ⟨js, h1, h2, h3⟩ := k
  have := Rms_pre h h2 js.length (by omega) (Nat.le_refl _)
  rw [List.take_length] at this
  obtain ⟨a, ha⟩ := lt_some (show js.length < ks.length by omega)
  have e1 := h _ a ha
  rw [this] at e1
  exact h3 a e1.1 e1.2.1 e1.2.2.1
theorem Rms_cv {lo W nB : Nat} {F : List Nat} : ∀ {ks : List Nat}, (∀ b, cv W F b ≤ 1) → Rms lo W nB F ks → ∀ i, i ≤ ks.length → ∀ b, cv W (F ++ ks.take i) b ≤ 1
  | ks, hF, h, 0, _, b => by simpa using hF b
  | ks, hF, h, i + 1, hi, b => by
    have ih := Rms_cv hF h i (by omega) b
    obtain ⟨a, ha⟩ := lt_some (show i < ks.length by omega)
    rw [take_s ha, ← List.append_assoc, cv_app, cv_1]
    have e1 := h i a ha
    by_cases z : a ≤ b ∧ b < a + W
    · rw [if_pos z, e1.2.2.1 b z.1 z.2]; exact Nat.le_refl _
    · rw [if_neg z]; omega
def PFr : Nat → Nat → Nat → Prop := fun a b _ => a = 0 ∧ (b = 15 ∨ b = 23)
theorem c_findRoom {Y : Ly} {q : Nat → Nat → Nat} {nL W nB : Nat} {S : Nat → List Sg} {st en : Nat → Int64} {M : Mm} {X : List (List Bt)} {Kn : Int32 → Mm → Prop} (hC : SC Y q nL W nB) (hR : SR q nL (mR M)) (hG : Geo nL W nB S) (hLC : LogC q nL W nB M st en S) (hX : X.length ≤ 60) (hK : PK q M X)
    (h1 : ∀ ks M', Rms (nL + 2) W nB (FFs S (nL + 1)) ks → ks.length = X.length → Ec q PFr M M' → Ar (mI M' (q 0 23)) ks → Kn 1 M') (h0 : ∀ M', RmN (nL + 2) W nB (FFs S (nL + 1)) X.length → Ec q PFr M M' → Kn 0 M') : f_X2_findRoom Y (q 0 18) M Kn := by
  have hd := sdims hC
  unfold f_X2_findRoom
  refine ⟨sk_0_18 hC, _, sr_0_18_0 hR, sk_0_13 hC, c_countUses hC hR hLC.1 (fun l hl => (hLC.2.2 l hl).2.1) (fun l hl => (hG.1 l hl).1) (fun l hl s hs => ((hG.1 l hl).2 s hs).2.1) (fun b => Nat.le_trans (hG.2 b) (by decide)) (fun u hu => ?_)⟩
  have E0 : Ec q PFr M (sI M (q 0 15) u) := Ec_sIr hC rfl (fun j => ⟨rfl, Or.inl rfl⟩)
  refine LOOP2_inv (fun x5 M6 => ∃ ks, ks.length ≤ X.length ∧ x5 = nI ks.length ∧ Rms (nL + 2) W nB (FFs S (nL + 1)) ks ∧ Ec q PFr M M6 ∧ Us (mI M6 (q 0 15)) W nB (FFs S (nL + 1) ++ ks) ∧ Ar (mI M6 (q 0 23)) ks) (fun x5 _ => X.length - x5.toNatClampNeg) ?_ _ _ ⟨[], by simp, rfl, Rms_0 _ _ _ _, E0, by rw [List.append_nil, mI_sI_self]; exact hu, Ar_nil _⟩
  rintro x5 M6 again ⟨ks, hk, rfl, hr, E, hus, har⟩ hag
  have hR6 : SR q nL (mR M6) := by rw [E.2]; exact hR
  have i18 : mI M6 (q 0 18) = mI M (q 0 18) := Ec_I E (fun j => by unfold PFr; omega)
  have i13 : mI M6 (q 0 13) = mI M (q 0 13) := Ec_I E (fun j => by unfold PFr; omega)
  unfold L_X2_findRoom_9
  rw [i18, hK.1, nI_cmp (by omega) (by omega)]
  refine ⟨fun c => ⟨Or.inr rfl, h1 ks M6 hr (by omega) E har⟩, fun c => ⟨_, sr_0_18_10 hR6, _, sr_0_18_0 hR6, sk_0_13 hC, ?_⟩⟩
  have hin : vp_in (nI ks.length) (yN Y (q 0 23)) := by rw [sn_0_23 hC]; exact vp_in_nI (by omega) (by decide)
  have hcv : ∀ b, cv W (FFs S (nL + 1) ++ ks) b ≤ 100 := fun b => by
    have := Rms_cv hG.2 hr ks.length (Nat.le_refl _) b
    rw [List.take_length] at this; omega
  refine c_take hC hR6 (by rw [i13]; exact hLC.1) (by rw [i13]; exact hLC.2.1) hus hcv (fun k hL u' hu' => ?_) (fun hN => ?_)
  · refine ⟨sk_0_23 hC, hin, fun M15 e15 => ⟨q 0 23, by rw [e15]; exact sr_0_18_10 hR6, sk_0_23 hC, hin, ?_⟩⟩
    rw [nI_clamp (by omega), I_ne hC _ _ (by decide)] at e15
    have e23 : mI M15 (q 0 23) = m1 (mI M6 (q 0 23)) ks.length (nI k) := by rw [e15, mI_sI_self]
    have hkb : k < 2 ^ 31 := by have := hL.2.1; omega
    rw [nI_clamp (by omega), e23, m1_at]
    refine ⟨fun _ x20 e20 => ?_, fun c2 => absurd c2 (nI_nm1 hkb)⟩
    rw [nI_1] at e20
    subst e20
    refine hag _ _ ⟨ks ++ [k], by simp; omega, by simp, Rms_s hr hL, ?_, ?_, ?_⟩ (by rw [nI_clamp (by omega), nI_clamp (by omega)]; omega)
    · exact Ec_trans E (Ec_trans (Ec_sIr hC (a := 0) (b := 15) rfl (fun j => ⟨rfl, Or.inl rfl⟩)) (Ec_sIr hC e15 (fun j => ⟨rfl, Or.inr rfl⟩)))
    · rw [e15, I_ne hC _ _ (by decide), mI_sI_self, ← List.append_assoc]; exact hu'
    · rw [e23]; exact Ar_snoc har k
  · refine ⟨sk_0_23 hC, hin, fun M15 e15 => ⟨q 0 23, by rw [e15]; exact sr_0_18_10 hR6, sk_0_23 hC, hin, ?_⟩⟩
    rw [nI_clamp (by omega)] at e15
    rw [nI_clamp (by omega), e15, mI_sI_self, m1_at]
    refine ⟨fun c2 => absurd rfl c2, fun _ => ⟨Or.inl rfl, h0 _ ⟨ks, by omega, hr, hN⟩ (Ec_trans E (Ec_sIr hC (a := 0) (b := 23) rfl (fun j => ⟨rfl, Or.inr rfl⟩)))⟩⟩
