/-! the class reads a record -/
def vw (M : Mm) (v e : Nat) (s : Int32) : Mm := sI M v (m1 (m1 (mI M v) 6 (nI e)) 7 s)
theorem vw_6 (M : Mm) (v e : Nat) (s : Int32) : mI (vw M v e s) v 6 = nI e := by simp [vw, mI_sI_self, m1]
theorem vw_7 (M : Mm) (v e : Nat) (s : Int32) : mI (vw M v e s) v 7 = s := by simp [vw, mI_sI_self, m1]
theorem vw_j (M : Mm) (v e : Nat) (s : Int32) {j : Nat} (h6 : j ≠ 6) (h7 : j ≠ 7) : mI (vw M v e s) v j = mI M v j := by simp [vw, mI_sI_self, m1, h6, h7]
theorem vw_ne (M : Mm) {v a : Nat} (e : Nat) (s : Int32) (h : a ≠ v) : mI (vw M v e s) a = mI M a := mI_sI_ne _ _ h
theorem vw_J (M : Mm) (v e : Nat) (s : Int32) : mJ (vw M v e s) = mJ M := rfl
theorem vw_R (M : Mm) (v e : Nat) (s : Int32) : mR (vw M v e s) = mR M := rfl
theorem m1_swap {α : Type} (f : Nat → α) {a b : Nat} (u v : α) (h : a ≠ b) : m1 (m1 f a u) b v = m1 (m1 f b v) a u := by
  funext y
  simp only [m1]
  by_cases ha : y = a
  · by_cases hb : y = b
    · exact absurd (ha.symm.trans hb) h
    · simp [ha, h]
  · simp [ha]
theorem vw_vw (M : Mm) (v e e' : Nat) (s s' : Int32) : vw (vw M v e s) v e' s' = vw M v e' s' := by
  unfold vw
  rw [sI_sI, mI_sI_self, m1_swap _ (nI e') s' (show (6 : Nat) ≠ 7 by decide), m1_m1, m1_swap _ s' (nI e') (show (7 : Nat) ≠ 6 by decide), m1_m1]
theorem vw_same {M : Mm} {v e : Nat} (he : mI M v 6 = nI e) : vw M v e (mI M v 7) = M := by
  unfold vw
  rw [← he, m1_same, m1_same, sI_same]
theorem vw_s7 (M : Mm) (v e : Nat) (s s' : Int32) : sI (vw M v e s) v (m1 (mI (vw M v e s) v) 7 s') = vw M v e s' := by
  unfold vw
  rw [sI_sI, mI_sI_self, m1_m1]
theorem vw_s6 (M : Mm) (v e e' : Nat) (s : Int32) : sI (vw M v e s) v (m1 (mI (vw M v e s) v) 6 (nI e')) = vw M v e' s := by
  unfold vw
  rw [sI_sI, mI_sI_self, m1_swap _ s (nI e') (show (7 : Nat) ≠ 6 by decide), m1_m1]
theorem vr_10 (z : Int64) (bs : List Int32) : vr 10 z bs = none := by
  cases bs <;> simp [vr]
theorem s_rv {Y : Ly} {v row e : Nat} {M : Mm} {Kn : Int64 → Mm → Prop} {bs : List Int32} (hkv : yK Y v = 10) (hkr : yK Y row = 100) (hne : row ≠ v) (hL : Lie (mI M row) e bs) (hN : e + bs.length ≤ yN Y row) (hb : yN Y row < 2 ^ 31) (he : mI M v 6 = nI e) (hs : bz (mI M v 7))
    (h : ∀ (r : Int64) (e' : Nat) (s' : Int32), e ≤ e' → e' ≤ e + bs.length → bz s' → ((s' = 1 ∧ mI M v 7 = 1 ∧ ∃ z, vr 0 0 bs = some (z, bs.drop (e' - e)) ∧ r = uzz z) ∨ (s' = 0 ∧ (mI M v 7 = 0 ∨ vr 0 0 bs = none))) → Kn r (vw M v e' s')) : f_X10_readVarint Y v row (nI (e + bs.length)) M Kn := by
  unfold f_X10_readVarint
  refine LOOP3_inv (fun x1 x2 M3 => ∃ k : Nat, k ≤ 10 ∧ k ≤ bs.length ∧ x2 = nI k ∧ M3 = vw M v (e + k) (mI M v 7) ∧ vr 0 0 bs = vr k x1 (bs.drop k)) (fun _ i _ => 10 - i.toNatClampNeg) ?_ 0 0 M ⟨0, by omega, by omega, rfl, (vw_same he).symm, rfl⟩
  rintro x1 x2 M3 again ⟨k, hk, hkb, rfl, rfl, hv⟩ hag
  unfold L_X10_readVarint_5
  have fail : vr 0 0 bs = none → f_X10_readVarint_136 Y v Kn (vw M v (e + k) (mI M v 7)) := by
    intro hn
    refine ⟨hkv, bz_0, fun M6 e6 => ?_⟩
    subst e6
    rw [vw_s7]
    exact h 0 (e + k) 0 (by omega) (by omega) bz_0 (Or.inr ⟨rfl, Or.inr hn⟩)
  rw [show (10 : Int32) = nI 10 from rfl, nI_cmp (by omega) (by omega)]
  refine ⟨fun c => fail ?_, fun c => ⟨hkv, ?_⟩⟩
  · have : k = 10 := by omega
    rw [hv, this, vr_10]
  rw [vw_6, nI_cmp (by omega) (by omega)]
  refine ⟨fun c2 => fail ?_, fun c2 => ⟨hkr, vp_in_nI (by omega) hb, fun x12 e12 M13 e13 x14 e14 => ?_⟩⟩
  · have : bs.drop k = [] := List.drop_eq_nil_of_le (by omega)
    rw [hv, this]; rfl
  obtain ⟨p, ps, hd⟩ : ∃ p ps, bs.drop k = p :: ps := by
    cases hd : bs.drop k with
    | nil => exact absurd (congrArg List.length hd) (by rw [List.length_drop]; simp; omega)
    | cons p ps => exact ⟨p, ps, rfl⟩
  have hps : bs.drop (k + 1) = ps := by rw [← List.drop_drop, hd]; rfl
  have hp : mI M row (e + k) = p := by
    have := Lie_drop hL k (by omega)
    rw [hd] at this
    exact this.1
  have hl : ps.length + (k + 1) = bs.length := by rw [← hps, List.length_drop]; omega
  rw [vw_ne _ _ _ hne, nI_clamp (by omega), hp] at e12
  rw [nI_1, vw_s6] at e13
  subst e12
  subst e13
  have e14' : x14 = vrz x1 k x12 := e14
  clear e14
  subst e14'
  rw [hd] at hv
  simp only [vr, if_neg (show ¬ 10 ≤ k by omega)] at hv
  have fin : ∀ (y : Int32), bz y → (y = 1 ↔ mI M v 7 = 1 ∧ ¬ ((0 < k ∧ x12 = 0) ∨ (k = 9 ∧ ¬ x12 = 1))) → ¬ x12 < 0 → f_X10_readVarint_118 Y v Kn (vw M v (e + k + 1) (mI M v 7)) (vrz x1 k x12) y := by
    intro y hy hyi hx
    refine ⟨hy, fun M21 e21 => ?_⟩
    subst e21
    rw [vw_s7]
    refine h _ (e + k + 1) y (by omega) (by omega) hy ?_
    rw [show e + k + 1 - e = k + 1 from by omega, hps, hv, if_neg hx]
    by_cases hc : (0 < k ∧ x12 = 0) ∨ (k = 9 ∧ ¬ x12 = 1)
    · right
      refine ⟨hy.resolve_right (fun y1 => (hyi.mp y1).2 hc), Or.inr ?_⟩
      rw [if_pos hc]
    · rcases hs with h7 | h7
      · right
        refine ⟨hy.resolve_right (fun y1 => ?_), Or.inl h7⟩
        have := (hyi.mp y1).1
        rw [h7] at this
        exact absurd this (by decide)
      · left
        refine ⟨hyi.mpr ⟨h7, hc⟩, h7, vrz x1 k x12, ?_, rfl⟩
        rw [if_neg hc]
  rw [nI_1]
  refine ⟨fun c3 x16 e16 => ?_, fun c3 => ?_⟩
  · subst e16
    refine hag _ _ _ ⟨k + 1, by omega, by omega, rfl, rfl, ?_⟩ ?_
    · rw [hv, if_pos c3, hps]
    · rw [nI_clamp (by omega), nI_clamp (by omega)]; omega
  · have g93 : ∀ (y17 y18 : Int32), (y17 = 0 ↔ ¬ (0 < k ∧ x12 = 0)) → (y18 = 0 ↔ ¬ (k = 9 ∧ ¬ x12 = 1)) → f_X10_readVarint_93 Y v Kn (vw M v (e + k + 1) (mI M v 7)) (vrz x1 k x12) y17 y18 := by
      intro y17 y18 h17 h18
      unfold f_X10_readVarint_93 f_X10_readVarint_117
      rw [vw_7]
      refine ⟨fun d => fin 0 bz_0 (by simp [d]) c3, fun d => ⟨fun d2 => fin 0 bz_0 ?_ c3, fun d2 => ⟨fun d3 => fin 0 bz_0 ?_ c3, fun d3 => fin 1 bz_1 ?_ c3⟩⟩⟩
      · rw [h17] at d2; simp only [Classical.not_not] at d2; simp [d2]
      · rw [h18] at d3; simp only [Classical.not_not] at d3; simp [d3]
      · rw [h17] at d2; rw [h18] at d3
        have : mI M v 7 = 1 := hs.resolve_left d
        simp only [true_iff, this, not_or]
        exact ⟨trivial, d2, d3⟩
    have g73 : ∀ (y17 : Int32), (y17 = 0 ↔ ¬ (0 < k ∧ x12 = 0)) → f_X10_readVarint_73 Y v Kn (nI k) x12 (vw M v (e + k + 1) (mI M v 7)) (vrz x1 k x12) y17 := by
      intro y17 h17
      unfold f_X10_readVarint_73 f_X10_readVarint_92
      rw [show (9 : Int32) = nI 9 from rfl, nI_eq (by omega) (by omega)]
      refine ⟨fun d => g93 _ _ h17 (by simp [d]), fun d => ⟨fun d2 => g93 _ _ h17 (by simp [d2]), fun d2 => g93 _ _ h17 (by simp [d, d2])⟩⟩
    unfold f_X10_readVarint_72
    rw [show (0 : Int32) = nI 0 from rfl, nI_cmp (by omega) (by omega)]
    refine ⟨fun d => g73 _ (by simp [show ¬ 0 < k by omega]; rfl), fun d => ⟨fun d2 => g73 _ ?_, fun d2 => g73 _ ?_⟩⟩
    · have : ¬ x12 = 0 := d2
      simp [this]; rfl
    · have : x12 = 0 := d2
      simp [this, show 0 < k by omega]
