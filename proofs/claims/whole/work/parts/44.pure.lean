/-- the row of one object, anew -/
def vq (M : Mm) (v : Nat) (f : Nat → Int32) (g : Nat → Int64) : Mm := sJ (sI M v f) v g
theorem vq_v (M : Mm) (v : Nat) (f : Nat → Int32) (g : Nat → Int64) : mI (vq M v f g) v = f := by simp [vq, mI_sJ, mI_sI_self]
theorem vq_n (M : Mm) {v a : Nat} (f : Nat → Int32) (g : Nat → Int64) (h : a ≠ v) : mI (vq M v f g) a = mI M a := by simp [vq, mI_sJ, mI_sI_ne _ _ h]
theorem vq_J (M : Mm) (v : Nat) (f : Nat → Int32) (g : Nat → Int64) : mJ (vq M v f g) v = g := by simp [vq, mJ_sJ_self]
theorem vq_Jn (M : Mm) {v a : Nat} (f : Nat → Int32) (g : Nat → Int64) (h : a ≠ v) : mJ (vq M v f g) a = mJ M a := by rw [vq, mJ_sJ_ne _ _ h]; rfl
theorem vq_R (M : Mm) (v : Nat) (f : Nat → Int32) (g : Nat → Int64) : mR (vq M v f g) = mR M := rfl
theorem vq_sI (M : Mm) (v : Nat) (f f' : Nat → Int32) (g : Nat → Int64) : sI (vq M v f g) v f' = vq M v f' g := by
  obtain ⟨I, J, R⟩ := M
  show (m1 (m1 I v f) v f', m1 J v g, R) = (m1 I v f', m1 J v g, R)
  rw [m1_m1]
theorem vq_sJ (M : Mm) (v : Nat) (f : Nat → Int32) (g g' : Nat → Int64) : sJ (vq M v f g) v g' = vq M v f g' := by
  obtain ⟨I, J, R⟩ := M
  show (m1 I v f, m1 (m1 J v g) v g', R) = (m1 I v f, m1 J v g', R)
  rw [m1_m1]
theorem vq_vw (M : Mm) (v : Nat) (f : Nat → Int32) (g : Nat → Int64) (e : Nat) (s : Int32) : vw (vq M v f g) v e s = vq M v (m1 (m1 f 6 (nI e)) 7 s) g := by
  unfold vw
  rw [vq_sI, vq_v]
theorem vq_same (M : Mm) (v : Nat) : vq M v (mI M v) (mJ M v) = M := by
  obtain ⟨I, J, R⟩ := M
  show (m1 I v (I v), m1 J v (J v), R) = (I, J, R)
  rw [m1_same, m1_same]
theorem s_rvQ {Y : Ly} {v row e1 : Nat} {M : Mm} {f : Nat → Int32} {g : Nat → Int64} {Kn : Int64 → Mm → Prop} {B : List Int32} (hkv : yK Y v = 10) (hkr : yK Y row = 100) (hne : row ≠ v) (hL : Lie (mI M row) e1 B) (hN : e1 + B.length ≤ yN Y row) (hb : yN Y row < 2 ^ 31) (e : Nat) (h1 : e1 ≤ e) (h2 : e ≤ e1 + B.length) (he : f 6 = nI e) (hs : bz (f 7))
    (h : ∀ (r : Int64) (e' : Nat) (s' : Int32), e ≤ e' → e' ≤ e1 + B.length → bz s' → ((s' = 1 ∧ f 7 = 1 ∧ ∃ z, vr 0 0 (B.drop (e - e1)) = some (z, B.drop (e' - e1)) ∧ r = uzz z) ∨ (s' = 0 ∧ (f 7 = 0 ∨ vr 0 0 (B.drop (e - e1)) = none))) → ∀ f' : Nat → Int32, f' 6 = nI e' → f' 7 = s' → (∀ j, j ≠ 6 → j ≠ 7 → f' j = f j) → Kn r (vq M v f' g)) : f_X10_readVarint Y v row (nI (e1 + B.length)) (vq M v f g) Kn := by
  have hl : e + (B.drop (e - e1)).length = e1 + B.length := by rw [List.length_drop]; omega
  rw [← hl]
  refine s_rv hkv hkr hne ?_ (by omega) hb (by rw [vq_v]; exact he) (by rw [vq_v]; exact hs) ?_
  · rw [vq_n _ _ _ hne]
    have := Lie_drop hL (e - e1) (by omega)
    rwa [show e1 + (e - e1) = e from by omega] at this
  · intro r e' s' a1 a2 a3 a4
    rw [vq_vw]
    rw [vq_v, List.drop_drop, hl] at *
    rw [show e - e1 + (e' - e) = e' - e1 from by omega] at a4
    exact h r e' s' a1 a2 a3 a4 _ (by simp [m1]) (by simp [m1]) (fun j h6 h7 => by simp [m1, h6, h7])
theorem s_rtQ {Y : Ly} {v row e1 : Nat} {M : Mm} {f : Nat → Int32} {g : Nat → Int64} {Kn : Int32 → Mm → Prop} {B : List Int32} (hkv : yK Y v = 10) (hkr : yK Y row = 100) (hne : row ≠ v) (hL : Lie (mI M row) e1 B) (hN : e1 + B.length ≤ yN Y row) (hb : yN Y row < 2 ^ 31) (e : Nat) (h1 : e1 ≤ e) (h2 : e ≤ e1 + B.length) (he : f 6 = nI e) (hs : bz (f 7))
    (h : ∀ (r : Int32) (e' : Nat) (s' : Int32), e ≤ e' → e' ≤ e1 + B.length → bz s' → ((s' = 1 ∧ f 7 = 1 ∧ ∃ z rs, vr 0 0 (B.drop (e - e1)) = some (z, rs) ∧ ¬ badT z rs ∧ r = (uzz z).toInt32 ∧ B.drop (e' - e1) = rs.drop (nn z)) ∨ (s' = 0 ∧ (f 7 = 0 ∨ ∀ z rs, vr 0 0 (B.drop (e - e1)) = some (z, rs) → badT z rs))) → ∀ f' : Nat → Int32, f' 6 = nI e' → f' 7 = s' → (∀ j, j ≠ 6 → j ≠ 7 → f' j = f j) → Kn r (vq M v f' g)) : f_X10_readText Y v row (nI (e1 + B.length)) (vq M v f g) Kn := by
  have hl : e + (B.drop (e - e1)).length = e1 + B.length := by rw [List.length_drop]; omega
  rw [← hl]
  refine s_rt hkv hkr hne ?_ (by omega) hb (by rw [vq_v]; exact he) (by rw [vq_v]; exact hs) ?_
  · rw [vq_n _ _ _ hne]
    have := Lie_drop hL (e - e1) (by omega)
    rwa [show e1 + (e - e1) = e from by omega] at this
  · intro r e' s' a1 a2 a3 a4
    rw [vq_vw]
    rw [vq_v, List.drop_drop, hl] at *
    rw [show e - e1 + (e' - e) = e' - e1 from by omega] at a4
    exact h r e' s' a1 a2 a3 a4 _ (by simp [m1]) (by simp [m1]) (fun j h6 h7 => by simp [m1, h6, h7])
theorem s_rzQ {Y : Ly} {v row e1 : Nat} {M : Mm} {f : Nat → Int32} {g : Nat → Int64} {Kn : Mm → Prop} {B : List Int32} (hkv : yK Y v = 10) (hkr : yK Y row = 100) (hne : row ≠ v) (hL : Lie (mI M row) e1 B) (hN : e1 + B.length ≤ yN Y row) (hb : yN Y row < 2 ^ 31) (e : Nat) (h1 : e1 ≤ e) (h2 : e ≤ e1 + B.length) (he : f 6 = nI e)
    (h : ∀ (e' : Nat) (s' : Int32), e ≤ e' → e' ≤ e1 + B.length → ((s' = f 7 ∧ e' = e + 1 ∧ ∃ ps, B.drop (e - e1) = 0 :: ps) ∨ (s' = 0 ∧ e' = e ∧ ∀ ps, B.drop (e - e1) ≠ 0 :: ps)) → ∀ f' : Nat → Int32, f' 6 = nI e' → f' 7 = s' → (∀ j, j ≠ 6 → j ≠ 7 → f' j = f j) → Kn (vq M v f' g)) : f_X10_readZero Y v row (nI (e1 + B.length)) (vq M v f g) Kn := by
  have hl : e + (B.drop (e - e1)).length = e1 + B.length := by rw [List.length_drop]; omega
  rw [← hl]
  refine s_rz hkv hkr ?_ (by omega) hb (by rw [vq_v]; exact he) ?_
  · rw [vq_n _ _ _ hne]
    have := Lie_drop hL (e - e1) (by omega)
    rwa [show e1 + (e - e1) = e from by omega] at this
  · intro e' s' a4
    rw [vq_vw]
    rw [vq_v] at a4
    refine h e' s' ?_ ?_ a4 _ (by simp [m1]) (by simp [m1]) (fun j h6 h7 => by simp [m1, h6, h7])
    · rcases a4 with a | a <;> omega
    · rcases a4 with ⟨_, a, ps, hp⟩ | a
      · have := congrArg List.length hp
        rw [List.length_drop, List.length_cons] at this
        omega
      · omega
