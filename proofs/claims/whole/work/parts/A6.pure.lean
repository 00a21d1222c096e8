/-! the draft -/
abbrev Dr : Type := (Nat → Int64) × (Nat → Int32) × (Nat → Int64) × (Nat → Int32) × (Nat → Int32) × Nat
def dK (D : Dr) : Nat → Int64 := D.1
def dC (D : Dr) : Nat → Int32 := D.2.1
def dV (D : Dr) : Nat → Int64 := D.2.2.1
def dW (D : Dr) : Nat → Int32 := D.2.2.2.1
def dT (D : Dr) : Nat → Int32 := D.2.2.2.2.1
def dN (D : Dr) : Nat := D.2.2.2.2.2
def dY (D : Dr) : List Int32 := dB (dK D) (dC D) (dV D) (dW D) (dT D) (dN D)
def gdL (L : Nat → Int32) : Nat → Int32
  | 0 => 0
  | n + 1 => if gdL L n < L n then L n else gdL L n
def rcO (kb vb later : Int32) : Prop := (kb = -1 ∨ ∃ n, n ≤ 8 ∧ kb = nI n) ∧ (vb = -1 ∨ ∃ n, n ≤ 300 ∧ vb = nI n) ∧ ∃ n, n ≤ 1000100 ∧ later = nI n
def DrC (q : Nat → Nat → Nat) (M : Mm) (D : Dr) : Prop := mI M (q 0 2) 1 = nI (dY D).length ∧ mI M (q 0 2) 2 = nI (dN D) ∧ mI M (q 0 2) 3 = gdL (dT D) (dN D) ∧ Lie (mI M (q 0 3)) 0 (dY D)
def DrM (q : Nat → Nat → Nat) (M : Mm) (D : Dr) : Prop := mI M (q 20 0) 12 = nI (dN D) ∧ ∀ k, k < dN D → mJ M (q 20 14) k = dK D k ∧ mI M (q 20 15) k = dC D k ∧ mJ M (q 20 16) k = dV D k ∧ mI M (q 20 17) k = dW D k ∧ mI M (q 20 18) k = dT D k
def DrI (D : Dr) : Prop := dN D ≤ 1000 ∧ (dY D).length ≤ 16000 ∧ ∀ k, k < dN D → rcO (dC D k) (dW D k) (dT D k)
def PcD : Nat → Nat → Nat → Prop := fun a b _ => a = 0 ∧ (b = 2 ∨ b = 3)
def PmD : Nat → Nat → Nat → Prop := fun a b j => a = 20 ∧ ((b = 0 ∧ (j = 0 ∨ j = 12)) ∨ (14 ≤ b ∧ b ≤ 18))
theorem rc_ok {kb vb later : Int32} (i : Nat) (h : rcO kb vb later) : lenOK later ∧ lenOK kb ∧ lenOK vb ∧ bdN later (nI i) kb vb < 1000 ∧ lnN kb ≤ 8 := by
  obtain ⟨h1, h2, n, hn, rfl⟩ := h
  have k1 : lenOK kb ∧ lnN kb ≤ 8 := by
    rcases h1 with rfl | ⟨n, hn, rfl⟩
    · exact ⟨Or.inl rfl, by decide⟩
    · exact ⟨Or.inr ⟨n, by omega, rfl⟩, by rw [(ln_nI (by omega)).2.2]; exact hn⟩
  have k2 : lenOK vb ∧ lnN vb ≤ 300 := by
    rcases h2 with rfl | ⟨n, hn, rfl⟩
    · exact ⟨Or.inl rfl, by decide⟩
    · exact ⟨Or.inr ⟨n, by omega, rfl⟩, by rw [(ln_nI (by omega)).2.2]; exact hn⟩
  refine ⟨Or.inr ⟨n, by omega, rfl⟩, k1.1, k2.1, ?_, k1.2⟩
  unfold bdN
  have := vn_len (lnZ (nI n))
  have := vn_len (lnZ (nI i))
  have := vn_len (lnZ kb)
  have := vn_len (lnZ vb)
  omega
theorem dB_congr {K K' : Nat → Int64} {KB KB' : Nat → Int32} {V V' : Nat → Int64} {VB VB' L L' : Nat → Int32} : ∀ {n : Nat}, (∀ k, k < n → K k = K' k ∧ KB k = KB' k ∧ V k = V' k ∧ VB k = VB' k ∧ L k = L' k) → dB K KB V VB L n = dB K' KB' V' VB' L' n
  | 0, _ => rfl
  | n + 1, h => by
    obtain ⟨a, b, c, d, e⟩ := h n (by omega)
    simp only [dB, rbD]
    rw [dB_congr (n := n) (fun k hk => h k (by omega)), a, b, c, d, e]
theorem gdL_congr {L L' : Nat → Int32} : ∀ {n : Nat}, (∀ k, k < n → L k = L' k) → gdL L n = gdL L' n
  | 0, _ => rfl
  | n + 1, h => by
    simp only [gdL]
    rw [gdL_congr (n := n) (fun k hk => h k (by omega)), h n (by omega)]
def add1 (D : Dr) (a : Int64) (b : Int32) (c : Int64) (d e : Int32) : Dr := (m1 (dK D) (dN D) a, m1 (dC D) (dN D) b, m1 (dV D) (dN D) c, m1 (dW D) (dN D) d, m1 (dT D) (dN D) e, dN D + 1)
theorem dY_add (D : Dr) (a : Int64) (b : Int32) (c : Int64) (d e : Int32) : dY (add1 D a b c d e) = dY D ++ rb (nI (dN D)) a b c d e := by
  show dB (m1 (dK D) (dN D) a) (m1 (dC D) (dN D) b) (m1 (dV D) (dN D) c) (m1 (dW D) (dN D) d) (m1 (dT D) (dN D) e) (dN D + 1) = _
  simp only [dB, rbD, m1_at]
  congr 1
  refine dB_congr (fun k hk => ?_)
  have hk : k ≠ dN D := by omega
  exact ⟨m1_nat _ _ hk, m1_nat _ _ hk, m1_nat _ _ hk, m1_nat _ _ hk, m1_nat _ _ hk⟩
theorem gd_add (D : Dr) (a : Int64) (b : Int32) (c : Int64) (d e : Int32) : gdL (dT (add1 D a b c d e)) (dN (add1 D a b c d e)) = if gdL (dT D) (dN D) < e then e else gdL (dT D) (dN D) := by
  show gdL (m1 (dT D) (dN D) e) (dN D + 1) = _
  simp only [gdL, m1_at]
  rw [gdL_congr (L' := dT D) (fun k hk => m1_nat _ _ (by omega))]
def recD (D : Dr) (a : Int64) (b : Int32) (c : Int64) (d e : Int32) : Nat → Dr
  | 0 => D
  | i + 1 => add1 (recD D a b c d e i) (a + (nI i).toInt64) b (c + (nI i).toInt64) d (e + nI i)
theorem dN_rec (D : Dr) (a : Int64) (b : Int32) (c : Int64) (d e : Int32) : ∀ i, dN (recD D a b c d e i) = dN D + i
  | 0 => rfl
  | i + 1 => by
    show dN (recD D a b c d e i) + 1 = _
    rw [dN_rec D a b c d e i]; omega
theorem dY_rec (D : Dr) (a : Int64) (b : Int32) (c : Int64) (d e : Int32) (i : Nat) : dY (recD D a b c d e (i + 1)) = dY (recD D a b c d e i) ++ rb (nI (dN D + i)) (a + (nI i).toInt64) b (c + (nI i).toInt64) d (e + nI i) := by
  show dY (add1 _ _ _ _ _ _) = _
  rw [dY_add, dN_rec]
theorem dY_mono (D : Dr) (a : Int64) (b : Int32) (c : Int64) (d e : Int32) (i : Nat) : ∀ k, (dY (recD D a b c d e i)).length ≤ (dY (recD D a b c d e (i + k))).length
  | 0 => Nat.le_refl _
  | k + 1 => by
    rw [← Nat.add_assoc, dY_rec, List.length_append]
    have := dY_mono D a b c d e i k
    omega
def RcO (v1 v4 v7 v8 : Int32) : Prop := (1 ≤ v1 ∧ v1 ≤ 100) ∧ (-1 ≤ v4 ∧ v4 ≤ 8) ∧ (-1 ≤ v7 ∧ v7 ≤ 300) ∧ (0 ≤ v8 ∧ v8 ≤ 1000000)
theorem m1_or {v : Int32} {m : Nat} (hm : m < 2 ^ 31) (h : -1 ≤ v ∧ v ≤ nI m) : v = -1 ∨ ∃ n, n ≤ m ∧ v = nI n := by
  by_cases g : v < 0
  · left
    have h1 := (Int32.le_iff_toInt_le).mp h.1
    have h2 := (Int32.lt_iff_toInt_lt).mp g
    rw [← Int32.toInt_inj]
    have e1 : (-1 : Int32).toInt = -1 := by decide
    have e2 : (0 : Int32).toInt = 0 := by decide
    omega
  · right
    obtain ⟨n, hn, rfl⟩ := nI_of g
    exact ⟨n, (nI_cmp hn hm).mp h.2, rfl⟩
theorem Rc_n {v1 v4 v7 v8 : Int32} (h : RcO v1 v4 v7 v8) : ∃ N lt, 1 ≤ N ∧ N ≤ 100 ∧ v1 = nI N ∧ lt ≤ 1000000 ∧ v8 = nI lt ∧ ∀ i, i < N → rcO v4 v7 (v8 + nI i) := by
  obtain ⟨h1, h2, h3, h4⟩ := h
  have z1 : ¬ v1 < 0 := Int32.not_lt.mpr (Int32.le_trans (by decide) h1.1)
  obtain ⟨N, hN, rfl⟩ := nI_of z1
  obtain ⟨lt, hlt, rfl⟩ := nI_of (Int32.not_lt.mpr h4.1)
  have a1 : 1 ≤ N := (nI_cmp (a := 1) (by omega) hN).mp h1.1
  have a2 : N ≤ 100 := (nI_cmp (b := 100) hN (by omega)).mp h1.2
  have a3 : lt ≤ 1000000 := (nI_cmp (b := 1000000) hlt (by omega)).mp h4.2
  refine ⟨N, lt, a1, a2, rfl, a3, rfl, fun i hi => ⟨m1_or (m := 8) (by omega) h2, m1_or (m := 300) (by omega) h3, lt + i, by omega, nI_add _ _⟩⟩
theorem rb_le {kb vb later : Int32} {i : Nat} {a c : Int64} (h : rcO kb vb later) : (rb (nI i) a kb c vb later).length ≤ 1010 := by
  have := (rc_ok i h).2.2.2.1
  rw [rb_len]
  have := vn_len (2 * bdN later (nI i) kb vb)
  omega
theorem dY_le {D : Dr} {a : Int64} {b : Int32} {c : Int64} {d e : Int32} {N : Nat} (h : ∀ i, i < N → rcO b d (e + nI i)) : ∀ i, i ≤ N → (dY (recD D a b c d e i)).length ≤ (dY D).length + 1010 * i
  | 0, _ => Nat.le_refl _
  | i + 1, hi => by
    rw [dY_rec, List.length_append]
    have := dY_le (D := D) (a := a) (c := c) h i (by omega)
    have := rb_le (i := dN D + i) (a := a + (nI i).toInt64) (c := c + (nI i).toInt64) (h i (by omega))
    omega
theorem DrI_rec {D : Dr} {a : Int64} {b : Int32} {c : Int64} {d e : Int32} {N : Nat} (hI : DrI D) (h : ∀ i, i < N → rcO b d (e + nI i)) (hn : dN D + N ≤ 1000) (hl : (dY (recD D a b c d e N)).length ≤ 16000) : ∀ i, i ≤ N → DrI (recD D a b c d e i)
  | 0, _ => hI
  | i + 1, hi => by
    have ih := DrI_rec hI h hn hl i (by omega)
    refine ⟨by rw [dN_rec]; omega, Nat.le_trans ?_ hl, fun k hk => ?_⟩
    · have := dY_mono D a b c d e (i + 1) (N - (i + 1))
      rwa [show i + 1 + (N - (i + 1)) = N by omega] at this
    · rw [dN_rec] at hk
      show rcO (m1 (dC (recD D a b c d e i)) (dN (recD D a b c d e i)) b k) (m1 (dW (recD D a b c d e i)) (dN (recD D a b c d e i)) d k) (m1 (dT (recD D a b c d e i)) (dN (recD D a b c d e i)) (e + nI i) k)
      by_cases z : k = dN D + i
      · rw [z, dN_rec, m1_at, m1_at, m1_at]; exact h i (by omega)
      · have z : k ≠ dN (recD D a b c d e i) := by rw [dN_rec]; exact z
        rw [m1_nat _ _ z, m1_nat _ _ z, m1_nat _ _ z]
        exact ih.2.2 k (by rw [dN_rec] at z ⊢; omega)
def RcR (D : Dr) (a : Int64) (b : Int32) (c : Int64) (d e : Int32) (N : Nat) : Prop := dN D + N ≤ 1000 ∧ (dY (recD D a b c d e N)).length ≤ 16000
theorem c_hasRoom {Y : Ly} {q : Nat → Nat → Nat} {nL W nB : Nat} {M : Mm} {D : Dr} {a : Int64} {b : Int32} {c : Int64} {d e : Int32} {N : Nat} {Kn : Int32 → Mm → Prop} (hC : SC Y q nL W nB) (hD : DrC q M D) (hI : DrI D) (hN : N ≤ 100) (hr : ∀ i, i < N → rcO b d (e + nI i)) (h1 : RcR D a b c d e N → Kn 1 M) (h0 : ¬ RcR D a b c d e N → Kn 0 M) : f_X4_hasRoom Y (q 0 2) (nI N) b d e M Kn := by
  obtain ⟨d1, d2, d3, d4⟩ := hD
  have i1 := hI.1
  have i2 := hI.2.1
  unfold f_X4_hasRoom
  refine ⟨sk_0_2 hC, ?_⟩
  rw [d2, nI_add]
  refine pk_le (dN D + N) 1000 (fun g => ?_) (fun g => ⟨Or.inl rfl, h0 (fun z => by have := z.1; omega)⟩)
  intro x3 e3
  rw [d1] at e3
  subst e3
  refine LOOP3_inv (fun x4 x5 M6 => ∃ i, i ≤ N ∧ x5 = nI i ∧ M6 = M ∧ x4 = nI (dY (recD D a b c d e i)).length) (fun _ x5 _ => N - x5.toNatClampNeg) ?_ _ _ _ ⟨0, by omega, rfl, rfl, rfl⟩
  rintro x4 x5 M6 again ⟨i, hi, rfl, rfl, rfl⟩ hag
  have bl := dY_le (D := D) (a := a) (c := c) hr i hi
  unfold L_X4_hasRoom_23 f_X4_hasRoom_81
  refine pk_le N i (fun g1 => ?_) (fun g1 => ?_)
  · have ei : i = N := by omega
    subst ei
    refine pk_lt 16000 (dY (recD D a b c d e i)).length (fun g2 => ⟨Or.inl rfl, h0 (fun z => by have := z.2; omega)⟩) (fun g2 => ⟨Or.inr rfl, h1 ⟨g, g2⟩⟩)
  · obtain ⟨o1, o2, o3, o4, o5⟩ := rc_ok (dN D + i) (hr i (by omega))
    have hic := ln_nI (n := dN D + i) (by omega)
    rw [d2, nI_add]
    refine w_bodyBytes o1 hic.1 o2 o3 ?_
    have hbn := ln_nI (n := bdN (e + nI i) (nI (dN D + i)) b d) (by omega)
    refine w_varintBytes (ln_zk hbn.1) ?_
    intro x14 e14 x15 e15
    rw [hbn.2.1, nI_add, nI_add] at e14
    rw [nI_1] at e15
    subst e14 e15
    refine hag _ _ _ ⟨i + 1, by omega, rfl, rfl, ?_⟩ ?_
    · rw [dY_rec, List.length_append, rb_len]
    · rw [nI_clamp (by omega), nI_clamp (by omega)]; omega
