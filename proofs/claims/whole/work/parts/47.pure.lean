theorem s_mrz {Y : Ly} {v b e1 : Nat} {M : Mm} {f : Nat → Int32} {g : Nat → Int64} {Kn : Mm → Prop} {B : List Int32} (hkv : yK Y v = 12) (hR : mR M v 40 = some b) (hkr : yK Y b = 101) (hne : b ≠ v) (hL : Lie (mI M b) e1 (m8 B)) (hBy : Bys B) (hN : e1 + B.length ≤ yN Y b) (hb : yN Y b < 2 ^ 31) (e : Nat) (h1 : e1 ≤ e) (h41 : f 41 = nI (e1 + B.length)) (he : f 42 = nI e) (hs : bz (f 43)) (h2 : f 43 = 1 → e ≤ e1 + B.length)
    (h : ∀ (s' : Int32), bz s' → ((s' = 1 ∧ f 43 = 1 ∧ e + 1 ≤ e1 + B.length ∧ ∃ ps, B.drop (e - e1) = 0 :: ps) ∨ (s' = 0 ∧ (f 43 = 0 ∨ ∀ ps, B.drop (e - e1) ≠ 0 :: ps))) → ∀ f' : Nat → Int32, f' 42 = nI (e + 1) → f' 43 = s' → (∀ j, j ≠ 42 → j ≠ 43 → f' j = f j) → Kn (vq M v f' g)) : f_X12_readZero Y v (vq M v f g) Kn := by
  have out : ∀ s' : Int32, bz s' → ((s' = 1 ∧ f 43 = 1 ∧ e + 1 ≤ e1 + B.length ∧ ∃ ps, B.drop (e - e1) = 0 :: ps) ∨ (s' = 0 ∧ (f 43 = 0 ∨ ∀ ps, B.drop (e - e1) ≠ 0 :: ps))) → f_X12_readZero_36 Y v (vq M v f g) Kn s' := by
    intro s' hs' hW
    refine ⟨hs', fun M4 e4 M5 e5 => ?_⟩
    subst e4
    simp only [vq_v, vq_sI] at e5
    subst e5
    exact h s' hs' hW _ (by simp [m1, he, nI_1]) (by simp [m1]) (fun j a1 a2 => by simp [m1, a1, a2])
  unfold f_X12_readZero f_X12_readZero_35
  simp only [vq_v, vq_R]
  refine ⟨hkv, fun c => out 0 bz_0 (Or.inr ⟨rfl, Or.inl c⟩), fun c => ?_⟩
  have c1 := bz_ne0 hs c
  have c2 := h2 c1
  rw [h41, he, nI_cmp (by omega) (by omega)]
  refine ⟨fun d => out 0 bz_0 (Or.inr ⟨rfl, Or.inr ?_⟩), fun d => ⟨b, hR, hkr, vp_in_nI (by omega) hb, ?_⟩⟩
  · intro ps hp
    rw [List.drop_eq_nil_of_le (by omega)] at hp
    cases hp
  · rw [vq_n _ _ _ hne, nI_clamp (by omega)]
    obtain ⟨p, ps, hd⟩ : ∃ p ps, B.drop (e - e1) = p :: ps := by
      cases hd : B.drop (e - e1) with
      | nil => exact absurd (congrArg List.length hd) (by rw [List.length_drop]; simp; omega)
      | cons p ps => exact ⟨p, ps, rfl⟩
    have hp : mI M b e = p &&& 255 := by
      have := Lie_drop hL (e - e1) (by rw [m8_len]; omega)
      rw [← m8_drop, hd, show e1 + (e - e1) = e from by omega] at this
      exact this.1
    have hpB : By p := hBy p (List.mem_of_mem_drop (by rw [hd]; exact List.mem_cons_self))
    rw [hp, By_0 hpB]
    refine ⟨fun d2 => out 0 bz_0 (Or.inr ⟨rfl, Or.inr ?_⟩), fun d2 => out 1 bz_1 (Or.inl ⟨rfl, c1, by omega, ps, by rw [hd, d2]⟩)⟩
    intro qs hq
    rw [hd] at hq
    cases hq
    exact d2 rfl
theorem s_mrb {Y : Ly} {v b e1 : Nat} {M : Mm} {f : Nat → Int32} {g : Nat → Int64} {Kn : Int64 → Mm → Prop} {B : List Int32} (hkv : yK Y v = 12) (hR : mR M v 40 = some b) (hkr : yK Y b = 101) (hne : b ≠ v) (hL : Lie (mI M b) e1 (m8 B)) (hBy : Bys B) (hN : e1 + B.length ≤ yN Y b) (hb : yN Y b < 2 ^ 31) (e : Nat) (h1 : e1 ≤ e) (h41 : f 41 = nI (e1 + B.length)) (he : f 42 = nI e) (hs : bz (f 43)) (h2 : f 43 = 1 → e ≤ e1 + B.length)
    (h : ∀ (r : Int64) (e' : Nat) (s' : Int32), e ≤ e' → bz s' → ((s' = 1 ∧ f 43 = 1 ∧ e' ≤ e1 + B.length ∧ ∃ z rs, vr 0 0 (B.drop (e - e1)) = some (z, rs) ∧ ¬ badT z rs ∧ r = uzz z ∧ B.drop (e' - e1) = rs.drop (nn z) ∧ nn z ≤ e') ∨ (s' = 0 ∧ (f 43 = 0 ∨ ∀ z rs, vr 0 0 (B.drop (e - e1)) = some (z, rs) → badT z rs))) → ∀ f' : Nat → Int32, f' 42 = nI e' → f' 43 = s' → (∀ j, j ≠ 42 → j ≠ 43 → f' j = f j) → Kn r (vq M v f' g)) : f_X12_readBytes Y v (vq M v f g) Kn := by
  unfold f_X12_readBytes
  refine ⟨hkv, s_mrv hkv hR hkr hne hL hBy hN hb e h1 h41 he hs h2 ?_⟩
  intro r e' s' b1 hs' W f' k42 k43 kj
  simp only [vq_v]
  have c1 : r < -1 ↔ r.toInt < -1 := Int64.lt_iff_toInt_lt
  have fail : ((s' = 0) ∨ (r.toInt < -1 ∨ ((e1 + B.length - e' : Nat) : Int) < r.toInt)) → f_X12_readBytes_40 Y v Kn (vq M v f' g) r := by
    intro hbad
    unfold f_X12_readBytes_40 f_X12_readBytes_41
    refine ⟨bz_0, fun M6 e6 => ?_⟩
    rw [vq_v, vq_sI] at e6
    subst e6
    simp only [vq_v]
    refine ⟨fun d => ?_, fun d => absurd (show m1 f' 43 0 43 = 0 from by simp [m1]) d⟩
    unfold f_X12_readBytes_67 f_X12_readBytes_68
    intro M8 e8
    rw [vq_v, vq_sI] at e8
    subst e8
    refine h r e' 0 b1 bz_0 (Or.inr ⟨rfl, ?_⟩) _ (by simp [m1, k42]) (by simp [m1]) (fun j a1 a2 => by simp [m1, a1, a2]; exact kj j a1 a2)
    rcases W with ⟨q1, q2, q3, z, q4, q5⟩ | ⟨q1, q2 | q2⟩
    · right
      intro z' rs hz
      rw [q4] at hz
      cases hz
      rcases hbad with y | y
      · rw [q1] at y; exact absurd y (by decide)
      · unfold badT
        rw [← q5, List.length_drop, show B.length - (e' - e1) = e1 + B.length - e' from by omega]
        exact y
    · exact Or.inl q2
    · right
      intro z' rs hz
      rw [q2] at hz; cases hz
  rw [k43, k42, show f' 41 = nI (e1 + B.length) from by rw [kj 41 (by decide) (by decide), h41]]
  refine ⟨fun d => fail (Or.inl d), fun d => ?_⟩
  rcases W with ⟨q1, q2, q3, z, q4, q5⟩ | ⟨q1, q2⟩
  rotate_left
  · exact absurd q1 d
  rw [c1, pk_sub q3, nI_l (by omega)]
  have c2 : lN (e1 + B.length - e') < r ↔ ((e1 + B.length - e' : Nat) : Int) < r.toInt := by
    rw [Int64.lt_iff_toInt_lt, pk_lT (by omega)]
  rw [c2]
  refine ⟨fun d2 => fail (Or.inr (Or.inl d2)), fun d2 => ⟨fun d3 => fail (Or.inr (Or.inr d3)), fun d3 => ?_⟩⟩
  unfold f_X12_readBytes_41
  refine ⟨bz_1, fun M6 e6 => ?_⟩
  rw [vq_v, vq_sI] at e6
  subst e6
  simp only [vq_v]
  have fin : ∀ y7 : Int32, y7 = nI (nn z) → f_X12_readBytes_68 Y v Kn r (vq M v (m1 f' 43 1) g) y7 := by
    intro y7 hy
    unfold f_X12_readBytes_68
    intro M8 e8
    rw [vq_v, vq_sI, hy, show m1 f' 43 1 42 = nI e' from by simp [m1, k42], nI_add] at e8
    subst e8
    have hnn : nn z = r.toInt.toNat := by rw [q5]; rfl
    refine h r (e' + nn z) 1 (by omega) bz_1 (Or.inl ⟨rfl, q2, by omega, z, _, q4, ?_, q5, ?_, by omega⟩) _ (by simp [m1]) (by simp [m1]) (fun j a1 a2 => by simp [m1, a1, a2]; exact kj j a1 a2)
    · unfold badT
      rw [← q5, List.length_drop]
      omega
    · rw [List.drop_drop]
      congr 1
      omega
  refine ⟨fun d4 => absurd d4 (by simp [m1]), fun d4 => ⟨fun d5 => ?_, fun d5 => ?_⟩⟩
  · have : r.toInt ≤ 0 := Int64.le_iff_toInt_le.mp d5
    exact fin 0 (by rw [show nn z = 0 from by unfold nn; rw [← q5]; omega]; rfl)
  · have : ¬ r.toInt ≤ 0 := fun z => d5 (Int64.le_iff_toInt_le.mpr z)
    refine fin _ ?_
    rw [i64_nI (by omega) (by omega)]
    unfold nn
    rw [q5]
