/-! the model reads a record -/
def By (p : Int32) : Prop := p.toInt8.toInt32 = p
theorem By_all (P : Int32 → Prop) (h : ∀ b : BitVec 8, P (Int8.ofBitVec b).toInt32) {p : Int32} (hp : By p) : P p := by
  rw [← hp]
  exact h p.toInt8.toBitVec
theorem By_127 {p : Int32} (h : By p) : (p &&& 255) ≤ 127 ↔ ¬ p < 0 := By_all (fun p => (p &&& 255) ≤ 127 ↔ ¬ p < 0) (by decide +kernel) h
theorem By_and {p : Int32} (h : By p) : (p &&& 255) &&& 127 = p &&& 127 := By_all (fun p => (p &&& 255) &&& 127 = p &&& 127) (by decide +kernel) h
theorem By_0 {p : Int32} (h : By p) : (p &&& 255) = 0 ↔ p = 0 := By_all (fun p => (p &&& 255) = 0 ↔ p = 0) (by decide +kernel) h
theorem By_pos {p : Int32} (h : By p) : 0 < (p &&& 255) ↔ ¬ p = 0 := By_all (fun p => 0 < (p &&& 255) ↔ ¬ p = 0) (by decide +kernel) h
theorem By_2 {p : Int32} (h : By p) : 2 ≤ (p &&& 255) ↔ ¬ (p = 0 ∨ p = 1) := By_all (fun p => 2 ≤ (p &&& 255) ↔ ¬ (p = 0 ∨ p = 1)) (by decide +kernel) h
def m8 (bs : List Int32) : List Int32 := bs.map (fun p => p &&& 255)
def Bys (bs : List Int32) : Prop := ∀ p, p ∈ bs → By p
theorem m8_drop (bs : List Int32) (n : Nat) : m8 (bs.drop n) = (m8 bs).drop n := List.map_drop
theorem m8_take (bs : List Int32) (n : Nat) : m8 (bs.take n) = (m8 bs).take n := List.map_take
theorem m8_len (bs : List Int32) : (m8 bs).length = bs.length := List.length_map ..
theorem Bys_drop {bs : List Int32} (h : Bys bs) (n : Nat) : Bys (bs.drop n) := fun p hp => h p (List.mem_of_mem_drop hp)
theorem Bys_take {bs : List Int32} (h : Bys bs) (n : Nat) : Bys (bs.take n) := fun p hp => h p (List.mem_of_mem_take hp)
theorem s_mrv {Y : Ly} {v b e1 : Nat} {M : Mm} {f : Nat → Int32} {g : Nat → Int64} {Kn : Int64 → Mm → Prop} {B : List Int32} (hkv : yK Y v = 12) (hR : mR M v 40 = some b) (hkr : yK Y b = 101) (hne : b ≠ v) (hL : Lie (mI M b) e1 (m8 B)) (hBy : Bys B) (hN : e1 + B.length ≤ yN Y b) (hb : yN Y b < 2 ^ 31) (e : Nat) (h1 : e1 ≤ e) (h41 : f 41 = nI (e1 + B.length)) (he : f 42 = nI e) (hs : bz (f 43)) (h2 : f 43 = 1 → e ≤ e1 + B.length)
    (h : ∀ (r : Int64) (e' : Nat) (s' : Int32), e ≤ e' → bz s' → ((s' = 1 ∧ f 43 = 1 ∧ e' ≤ e1 + B.length ∧ ∃ z, vr 0 0 (B.drop (e - e1)) = some (z, B.drop (e' - e1)) ∧ r = uzz z) ∨ (s' = 0 ∧ (f 43 = 0 ∨ vr 0 0 (B.drop (e - e1)) = none))) → ∀ f' : Nat → Int32, f' 42 = nI e' → f' 43 = s' → (∀ j, j ≠ 42 → j ≠ 43 → f' j = f j) → Kn r (vq M v f' g)) : f_X12_readVarint Y v (vq M v f g) Kn := by
  unfold f_X12_readVarint
  refine LOOP4_inv (fun x1 x2 x3 M4 => ∃ F : Nat → Int32, M4 = vq M v F g ∧ (∀ j, j ≠ 42 → j ≠ 43 → F j = f j) ∧ ∃ k : Nat, F 42 = nI (e + k) ∧ bz (F 43) ∧
      ((F 43 = 1 ∧ f 43 = 1 ∧ x3 = 1 ∧ k ≤ 10 ∧ e + k ≤ e1 + B.length ∧ x2 = nI k ∧ vr 0 0 (B.drop (e - e1)) = vr k x1 (B.drop (e + k - e1))) ∨
       (F 43 = 1 ∧ f 43 = 1 ∧ x3 = 0 ∧ e + k ≤ e1 + B.length ∧ vr 0 0 (B.drop (e - e1)) = some (x1, B.drop (e + k - e1))) ∨
       (F 43 = 0 ∧ (f 43 = 0 ∨ vr 0 0 (B.drop (e - e1)) = none)))) (fun x1 x2 x3 M4 => if x3 = 0 ∨ mI M4 v 43 = 0 then 0 else 12 - x2.toNatClampNeg) ?_ 0 0 1 (vq M v f g) ⟨f, rfl, fun _ _ _ => rfl, 0, he, hs, ?_⟩
  rotate_left
  · rcases hs with hs | hs
    · exact Or.inr (Or.inr ⟨hs, Or.inl hs⟩)
    · exact Or.inl ⟨hs, hs, rfl, by omega, h2 hs, rfl, rfl⟩
  rintro x1 x2 x3 M4 again ⟨F, rfl, hj, k, h42, h43, hW⟩ hag
  unfold L_X12_readVarint_7
  have out : ∀ w : Int64, ((F 43 = 1 ∧ f 43 = 1 ∧ e + k ≤ e1 + B.length ∧ ∃ z, vr 0 0 (B.drop (e - e1)) = some (z, B.drop (e + k - e1)) ∧ uzz w = uzz z) ∨ (F 43 = 0 ∧ (f 43 = 0 ∨ vr 0 0 (B.drop (e - e1)) = none))) → f_X12_readVarint_142 Y Kn w (vq M v F g) := by
    intro w hw
    unfold f_X12_readVarint_142 f_X12_readVarint_165
    intro x5 e5
    have := h (uzz w) (e + k) (F 43) (by omega) h43 hw F h42 rfl hj
    rw [uzz_m, ← e5] at this
    refine ⟨fun c => by rwa [if_neg c] at this, fun c => by rwa [if_pos c] at this⟩
  simp only [vq_v, vq_R, vq_sI]
  rcases hW with ⟨w1, w2, w3, w4, w5, w6, w7⟩ | ⟨w1, w2, w3, w4, w5⟩ | ⟨w1, w2⟩
  rotate_left
  · refine ⟨fun c => out x1 (Or.inl ⟨w1, w2, w4, x1, w5, rfl⟩), fun c => absurd w3 c⟩
  · refine ⟨fun c => out x1 (Or.inr ⟨w1, w2⟩), fun c => ⟨hkv, fun d => out x1 (Or.inr ⟨w1, w2⟩), fun d => absurd w1 d⟩⟩
  subst w3 w6
  have hag' : ∀ (b1 : Int64) (b2 b3 : Int32) (F' : Nat → Int32), (∀ j, j ≠ 42 → j ≠ 43 → F' j = f j) → (∃ k : Nat, F' 42 = nI (e + k) ∧ bz (F' 43) ∧
      ((F' 43 = 1 ∧ f 43 = 1 ∧ b3 = 1 ∧ k ≤ 10 ∧ e + k ≤ e1 + B.length ∧ b2 = nI k ∧ vr 0 0 (B.drop (e - e1)) = vr k b1 (B.drop (e + k - e1))) ∨
       (F' 43 = 1 ∧ f 43 = 1 ∧ b3 = 0 ∧ e + k ≤ e1 + B.length ∧ vr 0 0 (B.drop (e - e1)) = some (b1, B.drop (e + k - e1))) ∨
       (F' 43 = 0 ∧ (f 43 = 0 ∨ vr 0 0 (B.drop (e - e1)) = none)))) → (b3 = 0 ∨ F' 43 = 0 ∨ b2 = nI (k + 1)) → again b1 b2 b3 (vq M v F' g) := by
    intro b1 b2 b3 F' q1 q2 q3
    refine hag _ _ _ _ ⟨F', rfl, q1, q2⟩ ?_
    simp only [vq_v]
    rw [if_neg (show ¬ ((1 : Int32) = 0 ∨ F 43 = 0) from by rw [w1]; decide), nI_clamp (by omega)]
    split
    · omega
    · next hn =>
      rcases q3 with q | q | q
      · exact absurd (Or.inl q) hn
      · exact absurd (Or.inr q) hn
      · rw [q, nI_clamp (by omega)]; omega
  have bad : vr 0 0 (B.drop (e - e1)) = none → f_X12_readVarint_41 Y v x1 (nI k) 1 (vq M v F g) again := by
    intro hn
    unfold f_X12_readVarint_41 f_X12_readVarint_42
    refine ⟨bz_0, fun M13 e13 => ?_⟩
    subst e13
    simp only [vq_v, vq_sI]
    refine ⟨fun c => ?_, fun c => absurd (show m1 F 43 0 43 = 0 from by simp [m1]) c⟩
    exact hag' _ _ _ _ (fun j a1 a2 => by simp [m1, a2]; exact hj j a1 a2) ⟨k, by simp [m1, h42], by simp [m1]; exact bz_0, Or.inr (Or.inr ⟨by simp [m1], Or.inr hn⟩)⟩ (Or.inr (Or.inl (by simp [m1])))
  refine ⟨fun c => absurd c (by decide), fun c => ⟨hkv, fun d => absurd d (by rw [w1]; decide), fun d => ?_⟩⟩
  rw [show F 41 = nI (e1 + B.length) from by rw [hj 41 (by decide) (by decide), h41], h42, nI_cmp (by omega) (by omega), show (10 : Int32) = nI 10 from rfl, nI_cmp (by omega) (by omega)]
  refine ⟨fun c1 => bad ?_, fun c1 => ⟨fun c2 => bad ?_, fun c2 => ?_⟩⟩
  · rw [w7, List.drop_eq_nil_of_le (by omega)]; rfl
  · rw [w7, show k = 10 from by omega, vr_10]
  unfold f_X12_readVarint_42
  refine ⟨bz_1, fun M13 e13 => ?_⟩
  subst e13
  simp only [vq_v, vq_sI, vq_R]
  refine ⟨fun c3 => absurd c3 (by simp [m1]), fun c3 => ⟨b, hR, hkr, ?_⟩⟩
  rw [show m1 F 43 1 42 = nI (e + k) from by simp [m1, h42]]
  refine ⟨vp_in_nI (by omega) hb, fun x18 e18 M19 e19 => ?_⟩
  subst e19
  rw [vq_n _ _ _ hne, nI_clamp (by omega)] at e18
  obtain ⟨p, ps, hd⟩ : ∃ p ps, B.drop (e + k - e1) = p :: ps := by
    cases hd : B.drop (e + k - e1) with
    | nil => exact absurd (congrArg List.length hd) (by rw [List.length_drop]; simp; omega)
    | cons p ps => exact ⟨p, ps, rfl⟩
  have hps : B.drop (e + (k + 1) - e1) = ps := by
    rw [show e + (k + 1) - e1 = (e + k - e1) + 1 from by omega, ← List.drop_drop, hd]; rfl
  have hp : mI M b (e + k) = p &&& 255 := by
    have := Lie_drop hL (e + k - e1) (by rw [m8_len]; omega)
    rw [← m8_drop, hd, show e1 + (e + k - e1) = e + k from by omega] at this
    exact this.1
  have hpB : By p := hBy p (List.mem_of_mem_drop (by rw [hd]; exact List.mem_cons_self))
  rw [hp] at e18
  subst e18
  rw [hd] at w7
  simp only [vr, if_neg (show ¬ 10 ≤ k by omega)] at w7
  have fin : ∀ (y20 y21 : Int32), bz y21 → ((y20 = 1 ∧ p < 0 ∧ (y21 = 1 ↔ k < 9)) ∨ (y20 = 0 ∧ ¬ p < 0 ∧ (y21 = 1 ↔ ¬ ((0 < k ∧ p = 0) ∨ (k = 9 ∧ ¬ p = 1))))) → f_X12_readVarint_119 Y v x1 (nI k) again (p &&& 255) (vq M v (m1 (m1 F 43 1) 42 (nI (e + k + 1))) g) y20 y21 := by
    intro y20 y21 hy hc
    refine ⟨hy, fun M23 e23 x24 e24 x25 e25 => ?_⟩
    subst e23
    rw [By_and hpB] at e24
    have e24' : x24 = vrz x1 k p := e24
    clear e24
    rw [nI_1] at e25
    subst e24' e25
    rw [vq_v, vq_sI]
    refine hag' _ _ _ _ (fun j a1 a2 => by simp [m1, a1, a2]; exact hj j a1 a2) ⟨k + 1, by simp [m1]; rfl, by simp [m1]; exact hy, ?_⟩ (Or.inr (Or.inr rfl))
    rw [show m1 (m1 (m1 F 43 1) 42 (nI (e + k + 1))) 43 y21 43 = y21 from by simp [m1]]
    rcases hc with ⟨q1, q2, q3⟩ | ⟨q1, q2, q3⟩
    · rw [w7, if_pos q2]
      rcases hy with y | y
      · right; right
        refine ⟨y, Or.inr ?_⟩
        have : ¬ k < 9 := fun z => by rw [q3.mpr z] at y; exact absurd y (by decide)
        rw [show k + 1 = 10 from by omega, vr_10]
      · left
        refine ⟨y, w2, q1, by omega, by omega, rfl, ?_⟩
        rw [hps]
    · rw [w7, if_neg q2]
      rcases hy with y | y
      · right; right
        refine ⟨y, Or.inr ?_⟩
        have : ((0 < k ∧ p = 0) ∨ (k = 9 ∧ ¬ p = 1)) := Classical.byContradiction (fun z => by rw [q3.mpr z] at y; exact absurd y (by decide))
        rw [if_pos this]
      · right; left
        refine ⟨y, w2, q1, by omega, ?_⟩
        rw [if_neg (q3.mp y), hps]
  have g100 : ∀ y20 : Int32, ((y20 = 1 ∧ p < 0 ∧ k < 9) ∨ (y20 = 0 ∧ ¬ p < 0 ∧ (k < 9 ∨ p = 0 ∨ p = 1))) → f_X12_readVarint_100 Y v x1 (nI k) again (p &&& 255) (vq M v (m1 (m1 F 43 1) 42 (nI (e + k + 1))) g) y20 := by
    intro y20 hy
    unfold f_X12_readVarint_100 f_X12_readVarint_114 f_X12_readVarint_118
    rw [By_pos hpB]
    refine ⟨fun c => fin _ _ bz_1 ?_, fun c => ⟨fun c5 => fin _ _ bz_1 ?_, fun c5 => ⟨fun c6 => fin _ _ bz_0 ?_, fun c6 => fin _ _ bz_1 ?_⟩⟩⟩
    · rcases hy with ⟨y1, y2, y3⟩ | ⟨y1, y2, y3⟩
      · exact Or.inl ⟨y1, y2, by simp [y3]⟩
      · exact absurd y1 c
    · rcases hy with ⟨y1, y2, y3⟩ | ⟨y1, y2, y3⟩
      · rw [y1] at c; exact absurd c (by decide)
      · refine Or.inr ⟨y1, y2, ?_⟩
        simp only [true_iff]
        rintro (⟨q1, q2⟩ | ⟨q1, q2⟩)
        · exact c5 q2
        · rcases y3 with y | y | y
          · omega
          · exact c5 y
          · exact q2 y
    · rcases hy with ⟨y1, y2, y3⟩ | ⟨y1, y2, y3⟩
      · rw [y1] at c; exact absurd c (by decide)
      · refine Or.inr ⟨y1, y2, ?_⟩
        have hk0 : 0 < k := Nat.pos_of_ne_zero (fun z => c6 (by rw [z]; rfl))
        have hp0 : p = 0 := Classical.not_not.mp c5
        exact ⟨fun z => absurd z (by decide), fun z => absurd (Or.inl ⟨hk0, hp0⟩) z⟩
    · rcases hy with ⟨y1, y2, y3⟩ | ⟨y1, y2, y3⟩
      · rw [y1] at c; exact absurd c (by decide)
      · refine Or.inr ⟨y1, y2, ?_⟩
        have hk0 : k = 0 := by
          rw [show (0 : Int32) = nI 0 from rfl, nI_eq (by omega) (by omega)] at c6; exact c6
        simp [hk0]
  have g85 : ∀ y20 : Int32, ((y20 = 1 ∧ p < 0) ∨ (y20 = 0 ∧ ¬ p < 0)) → f_X12_readVarint_85 Y v x1 (nI k) again (p &&& 255) (vq M v (m1 (m1 F 43 1) 42 (nI (e + k + 1))) g) y20 := by
    intro y20 hy
    unfold f_X12_readVarint_85 f_X12_readVarint_118
    rw [show (9 : Int32) = nI 9 from rfl, nI_ltI (by omega) (by omega), By_2 hpB]
    refine ⟨fun c => g100 _ ?_, fun c => ⟨fun c5 => fin _ _ bz_0 ?_, fun c5 => g100 _ ?_⟩⟩
    · rcases hy with ⟨y1, y2⟩ | ⟨y1, y2⟩
      · exact Or.inl ⟨y1, y2, c⟩
      · exact Or.inr ⟨y1, y2, Or.inl c⟩
    · rcases hy with ⟨y1, y2⟩ | ⟨y1, y2⟩
      · exact Or.inl ⟨y1, y2, by simp [c]⟩
      · refine Or.inr ⟨y1, y2, ⟨fun z => absurd z (by decide), fun z => absurd (Or.inr ⟨by omega, fun y => c5 (Or.inr y)⟩) z⟩⟩
    · have c5' := Classical.not_not.mp c5
      rcases hy with ⟨y1, y2⟩ | ⟨y1, y2⟩
      · rcases c5' with y | y
        · rw [y] at y2; exact absurd y2 (by decide)
        · rw [y] at y2; exact absurd y2 (by decide)
      · exact Or.inr ⟨y1, y2, Or.inr c5'⟩
  rw [nI_1, By_127 hpB]
  exact ⟨fun c => g85 _ (Or.inr ⟨rfl, c⟩), fun c => g85 _ (Or.inl ⟨rfl, Classical.not_not.mp c⟩)⟩
