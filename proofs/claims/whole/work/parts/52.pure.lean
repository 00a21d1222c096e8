/-! a record of the draft -/
def lnN (x : Int32) : Nat := if x = -1 then 0 else x.toNatClampNeg
def lnZ (x : Int32) : Nat := if x = -1 then 1 else 2 * x.toNatClampNeg
def lenOK (x : Int32) : Prop := x = -1 ∨ ∃ n, n < 2 ^ 21 ∧ x = nI n
theorem nI_nm1 {n : Nat} (h : n < 2 ^ 31) : ¬ nI n = -1 := fun e => by
  have := nI_pos (n := n) h
  rw [e] at this
  exact this (by decide)
theorem ln_zk {x : Int32} (h : lenOK x) : zk x.toInt64 (lnZ x) := by
  rcases h with rfl | ⟨n, hn, rfl⟩
  · left; exact ⟨by decide, rfl⟩
  · right
    unfold lnZ
    rw [if_neg (nI_nm1 (by omega)), nI_clamp (by omega), nI_l (by omega)]
    refine ⟨by omega, by omega, ?_⟩
    congr 1; omega
theorem ln_max {x : Int32} (h : lenOK x) : (if x < 0 then 0 else x) = nI (lnN x) := by
  rcases h with rfl | ⟨n, hn, rfl⟩
  · rfl
  · unfold lnN
    rw [if_neg (nI_nm1 (by omega)), nI_clamp (by omega), if_neg (nI_pos (by omega))]
theorem ln_lt {x : Int32} (h : lenOK x) : lnN x < 2 ^ 21 := by
  rcases h with rfl | ⟨n, hn, rfl⟩
  · decide
  · unfold lnN
    rw [if_neg (nI_nm1 (by omega)), nI_clamp (by omega)]; exact hn
theorem ln_nI {n : Nat} (h : n < 2 ^ 21) : lenOK (nI n) ∧ lnZ (nI n) = 2 * n ∧ lnN (nI n) = n := by
  refine ⟨Or.inr ⟨n, h, rfl⟩, ?_, ?_⟩
  · unfold lnZ; rw [if_neg (nI_nm1 (by omega)), nI_clamp (by omega)]
  · unfold lnN; rw [if_neg (nI_nm1 (by omega)), nI_clamp (by omega)]
theorem vn_len (z : Nat) : 1 ≤ (vn z).length ∧ (vn z).length ≤ 10 := vnF_len 9 z
def bdN (later i kb vb : Int32) : Nat := 2 + (vn (lnZ later)).length + (vn (lnZ i)).length + (vn (lnZ kb)).length + (vn (lnZ vb)).length + lnN kb + lnN vb
theorem w_bodyBytes {Y : Ly} {later i kb vb : Int32} {M : Mm} {Kn : Int32 → Mm → Prop} (h1 : lenOK later) (h2 : lenOK i) (h3 : lenOK kb) (h4 : lenOK vb) (h : Kn (nI (bdN later i kb vb)) M) : f_X4_bodyBytes Y later i kb vb M Kn := by
  unfold f_X4_bodyBytes
  refine w_varintBytes (ln_zk h1) (w_varintBytes (ln_zk h2) ?_)
  intro x5 e5
  refine w_varintBytes (ln_zk h3) ?_
  intro x8 e8
  refine w_varintBytes (ln_zk h4) ?_
  intro x11 e11
  rw [ln_max h3, nI_add] at e8
  rw [ln_max h4, nI_add] at e11
  rw [nI_add] at e5
  subst e5 e8 e11
  rw [show (1 : Int32) = nI 1 from rfl, nI_add, nI_add, nI_add, nI_add]
  rw [show 1 + ((vn (lnZ later)).length + (vn (lnZ i)).length) + ((vn (lnZ kb)).length + lnN kb) + ((vn (lnZ vb)).length + lnN vb) + 1 = bdN later i kb vb from by unfold bdN; omega]
  exact h
def vbs (v : Int64) (n : Nat) : List Int32 := (List.range n).map (fun j => pb1 v (j % 8))
theorem vbs_len (v : Int64) (n : Nat) : (vbs v n).length = n := by simp [vbs]
theorem vbs_s (v : Int64) (n : Nat) : vbs v (n + 1) = vbs v n ++ [pb1 v (n % 8)] := by simp [vbs, List.range_succ]
def rbody (i : Int32) (key : Int64) (kb : Int32) (val : Int64) (vb later : Int32) : List Int32 :=
  [0] ++ vn (lnZ later) ++ vn (lnZ i) ++ vn (lnZ kb) ++ pb key (lnN kb) ++ vn (lnZ vb) ++ vbs val (lnN vb) ++ [0]
def rb (i : Int32) (key : Int64) (kb : Int32) (val : Int64) (vb later : Int32) : List Int32 :=
  vn (2 * bdN later i kb vb) ++ rbody i key kb val vb later
theorem rbody_len (i : Int32) (key : Int64) (kb : Int32) (val : Int64) (vb later : Int32) : (rbody i key kb val vb later).length = bdN later i kb vb := by
  unfold rbody bdN
  simp only [List.length_append, List.length_cons, List.length_nil, pb_len, vbs_len]
  omega
theorem rb_len (i : Int32) (key : Int64) (kb : Int32) (val : Int64) (vb later : Int32) : (rb i key kb val vb later).length = (vn (2 * bdN later i kb vb)).length + bdN later i kb vb := by
  unfold rb
  rw [List.length_append, rbody_len]
theorem By_0' : By 0 := rfl
theorem Bys_app {x y : List Int32} (h1 : Bys x) (h2 : Bys y) : Bys (x ++ y) := fun p hp => by
  rcases List.mem_append.mp hp with h | h
  · exact h1 p h
  · exact h2 p h
theorem Bys_1 {p : Int32} (h : By p) : Bys [p] := fun q hq => by
  simp only [List.mem_singleton] at hq
  subst hq; exact h
theorem vbs_By (v : Int64) (n : Nat) : Bys (vbs v n) := fun p hp => by
  unfold vbs at hp
  obtain ⟨j, -, rfl⟩ := List.mem_map.mp hp
  exact By_8 _
theorem rb_By (i : Int32) (key : Int64) (kb : Int32) (val : Int64) (vb later : Int32) : Bys (rb i key kb val vb later) := by
  unfold rb rbody
  exact Bys_app (vnF_By _ _) (Bys_app (Bys_app (Bys_app (Bys_app (Bys_app (Bys_app (Bys_app (Bys_1 By_0') (vnF_By _ _)) (vnF_By _ _)) (vnF_By _ _)) (pb_By _ _)) (vnF_By _ _)) (vbs_By _ _)) (Bys_1 By_0'))
theorem w_putLn {Y : Ly} {row a : Nat} {x : Int32} {v : Int64} {M : Mm} {Kn : Mm → Prop} (hx : lenOK x) (hk : yK Y row = 100) (hn : a + lnN x ≤ yN Y row) (hb : yN Y row < 2 ^ 31) (h : Kn (sI M row (wr (mI M row) a (pb v (lnN x))))) : f_X1_put Y row (nI a) x v M Kn := by
  rcases hx with rfl | ⟨n, hn', rfl⟩
  · unfold f_X1_put
    refine ⟨1, ?_⟩
    refine ⟨fun _ => ?_, fun c => absurd (show (-1 : Int32) ≤ 0 from by decide) c⟩
    have : sI M row (wr (mI M row) a (pb v (lnN (-1)))) = M := by
      show sI M row (mI M row) = M
      exact sI_same M row
    rw [this] at h
    exact h
  · rw [(ln_nI hn').2.2] at h hn
    exact w_put hk hn hb h
theorem byte0 : (0 : Int32).toInt8.toInt32 = 0 := rfl
theorem w_add {Y : Ly} {d row p cn : Nat} {key val : Int64} {kb vb later lt : Int32} {M : Mm} {Kn : Mm → Prop} (hkd : yK Y d = 4) (hkr : yK Y row = 100) (hne : d ≠ row) (hR : mR M d 0 = some row) (h1 : mI M d 1 = nI p) (h2 : mI M d 2 = nI cn) (hcn : cn < 2 ^ 20) (h3 : mI M d 3 = lt) (hl : lenOK later) (hkb : lenOK kb) (hvb : lenOK vb) (hbd : bdN later (nI cn) kb vb < 2 ^ 20)
    (hn : p + (rb (nI cn) key kb val vb later).length ≤ yN Y row) (hb : yN Y row < 2 ^ 31)
    (h : Kn (sI (sI M row (wr (mI M row) p (rb (nI cn) key kb val vb later))) d (m1 (m1 (m1 (mI M d) 1 (nI (p + (rb (nI cn) key kb val vb later).length))) 2 (nI (cn + 1))) 3 (if lt < later then later else lt)))) : f_X4_add Y d key kb val vb later M Kn := by
  obtain ⟨L, hL⟩ : ∃ L, L = (rb (nI cn) key kb val vb later) := ⟨_, rfl⟩
  have hic := ln_nI (n := cn) (by omega)
  have hbn := ln_nI (n := bdN later (nI cn) kb vb) (by omega)
  have hLe : L = vn (2 * bdN later (nI cn) kb vb) ++ ([0] ++ vn (lnZ later) ++ vn (lnZ (nI cn)) ++ vn (lnZ kb) ++ pb key (lnN kb) ++ vn (lnZ vb) ++ vbs val (lnN vb) ++ [0]) := hL
  have hLl := congrArg List.length hLe
  simp only [List.length_append, List.length_cons, List.length_nil, pb_len, vbs_len] at hLl
  rw [← hL] at hn h
  have hZ : vn (lnZ (nI (bdN later (nI cn) kb vb))) = vn (2 * bdN later (nI cn) kb vb) := by rw [hbn.2.1]
  have hI : ∀ (f g : Nat → Int32), mI (sI (sI M row f) row g) d = mI M d := fun f g => by rw [mI_sI_ne _ _ hne, mI_sI_ne _ _ hne]
  unfold f_X4_add
  refine ⟨hkd, row, hR, ?_⟩
  rw [h1, h2]
  refine w_bodyBytes hl hic.1 hkb hvb ?_
  refine w_putVarint (ln_zk hbn.1) hkr (by rw [hZ]; omega) hb ?_
  rw [hZ]
  refine ⟨row, by rw [mR_sI]; exact hR, hkr, vp_in_nI (by omega) hb, fun M10 e10 => ?_⟩
  rw [nI_clamp (by omega), mI_sI_self, sI_sI, byte0] at e10
  have a1 : m1 (wr (mI M row) p (vn (2 * bdN later (nI cn) kb vb))) (p + (vn (2 * bdN later (nI cn) kb vb)).length) 0 = wr (mI M row) p (vn (2 * bdN later (nI cn) kb vb) ++ [0]) := by rw [wr_app]; rfl
  rw [a1] at e10
  subst e10
  refine ⟨row, by rw [mR_sI]; exact hR, ?_⟩
  rw [nI_1]
  refine w_putVarint (ln_zk hl) hkr (by omega) hb ?_
  rw [mI_sI_self, sI_sI]
  have a2 : wr (wr (mI M row) p (vn (2 * bdN later (nI cn) kb vb) ++ [0])) (p + (vn (2 * bdN later (nI cn) kb vb)).length + 1) (vn (lnZ later)) = wr (mI M row) p (vn (2 * bdN later (nI cn) kb vb) ++ [0] ++ vn (lnZ later)) := by
    rw [wr_app _ _ (vn (2 * bdN later (nI cn) kb vb) ++ [0])]
    simp only [List.length_append, List.length_cons, List.length_nil, Nat.add_assoc, Nat.zero_add]
  rw [a2]
  refine ⟨row, by rw [mR_sI]; exact hR, ?_⟩
  rw [mI_sI_ne _ _ hne, h2]
  refine w_putVarint (ln_zk hic.1) hkr (by omega) hb ?_
  rw [mI_sI_self, sI_sI]
  have a3 : wr (wr (mI M row) p (vn (2 * bdN later (nI cn) kb vb) ++ [0] ++ vn (lnZ later))) (p + (vn (2 * bdN later (nI cn) kb vb)).length + 1 + (vn (lnZ later)).length) (vn (lnZ (nI cn))) = wr (mI M row) p (vn (2 * bdN later (nI cn) kb vb) ++ [0] ++ vn (lnZ later) ++ vn (lnZ (nI cn))) := by
    rw [wr_app _ _ (vn (2 * bdN later (nI cn) kb vb) ++ [0] ++ vn (lnZ later))]
    simp only [List.length_append, List.length_cons, List.length_nil, Nat.add_assoc, Nat.zero_add]
  rw [a3]
  refine ⟨row, by rw [mR_sI]; exact hR, ?_⟩
  refine w_putVarint (ln_zk hkb) hkr (by omega) hb ?_
  rw [mI_sI_self, sI_sI]
  have a4 : wr (wr (mI M row) p (vn (2 * bdN later (nI cn) kb vb) ++ [0] ++ vn (lnZ later) ++ vn (lnZ (nI cn)))) (p + (vn (2 * bdN later (nI cn) kb vb)).length + 1 + (vn (lnZ later)).length + (vn (lnZ (nI cn))).length) (vn (lnZ kb)) = wr (mI M row) p (vn (2 * bdN later (nI cn) kb vb) ++ [0] ++ vn (lnZ later) ++ vn (lnZ (nI cn)) ++ vn (lnZ kb)) := by
    rw [wr_app _ _ (vn (2 * bdN later (nI cn) kb vb) ++ [0] ++ vn (lnZ later) ++ vn (lnZ (nI cn)))]
    simp only [List.length_append, List.length_cons, List.length_nil, Nat.add_assoc, Nat.zero_add]
  rw [a4]
  refine ⟨row, by rw [mR_sI]; exact hR, ?_⟩
  refine w_putLn hkb hkr (by omega) hb ?_
  rw [mI_sI_self, sI_sI]
  have a5 : wr (wr (mI M row) p (vn (2 * bdN later (nI cn) kb vb) ++ [0] ++ vn (lnZ later) ++ vn (lnZ (nI cn)) ++ vn (lnZ kb))) (p + (vn (2 * bdN later (nI cn) kb vb)).length + 1 + (vn (lnZ later)).length + (vn (lnZ (nI cn))).length + (vn (lnZ kb)).length) (pb key (lnN kb)) = wr (mI M row) p (vn (2 * bdN later (nI cn) kb vb) ++ [0] ++ vn (lnZ later) ++ vn (lnZ (nI cn)) ++ vn (lnZ kb) ++ pb key (lnN kb)) := by
    rw [wr_app _ _ (vn (2 * bdN later (nI cn) kb vb) ++ [0] ++ vn (lnZ later) ++ vn (lnZ (nI cn)) ++ vn (lnZ kb))]
    simp only [List.length_append, List.length_cons, List.length_nil, Nat.add_assoc, Nat.zero_add]
  rw [a5]
  refine ⟨row, by rw [mR_sI]; exact hR, ?_⟩
  rw [ln_max hkb, nI_add]
  refine w_putVarint (ln_zk hvb) hkr (by omega) hb ?_
  rw [mI_sI_self, sI_sI]
  obtain ⟨PP, hPP⟩ : ∃ PP, PP = vn (2 * bdN later (nI cn) kb vb) ++ [0] ++ vn (lnZ later) ++ vn (lnZ (nI cn)) ++ vn (lnZ kb) ++ pb key (lnN kb) ++ vn (lnZ vb) := ⟨_, rfl⟩
  have hPPl := congrArg List.length hPP
  simp only [List.length_append, List.length_cons, List.length_nil, pb_len] at hPPl
  have a6 : wr (wr (mI M row) p (vn (2 * bdN later (nI cn) kb vb) ++ [0] ++ vn (lnZ later) ++ vn (lnZ (nI cn)) ++ vn (lnZ kb) ++ pb key (lnN kb))) (p + (vn (2 * bdN later (nI cn) kb vb)).length + 1 + (vn (lnZ later)).length + (vn (lnZ (nI cn))).length + (vn (lnZ kb)).length + lnN kb) (vn (lnZ vb)) = wr (mI M row) p PP := by
    rw [hPP, wr_app _ _ (vn (2 * bdN later (nI cn) kb vb) ++ [0] ++ vn (lnZ later) ++ vn (lnZ (nI cn)) ++ vn (lnZ kb) ++ pb key (lnN kb))]
    simp only [List.length_append, List.length_cons, List.length_nil, pb_len, Nat.add_assoc, Nat.zero_add]
  rw [a6, show p + (vn (2 * bdN later (nI cn) kb vb)).length + 1 + (vn (lnZ later)).length + (vn (lnZ (nI cn))).length + (vn (lnZ kb)).length + lnN kb + (vn (lnZ vb)).length = p + PP.length from by omega]
  have hLP : L = PP ++ vbs val (lnN vb) ++ [0] := by rw [hLe, hPP]; simp only [List.append_assoc]
  have hvl := ln_lt hvb
  -- the bytes of the value
  refine LOOP2_inv (fun x25 M26 => ∃ j : Nat, j ≤ lnN vb ∧ x25 = nI j ∧ M26 = sI M row (wr (mI M row) p (PP ++ vbs val j))) (fun x25 _ => lnN vb - x25.toNatClampNeg) ?_ 0 _ ⟨0, by omega, rfl, by simp [vbs]⟩
  rintro x25 M26 again ⟨j, hj, rfl, rfl⟩ hag
  unfold L_X4_add_113
  have cmp : vb ≤ nI j ↔ lnN vb ≤ j := by
    rcases hvb with rfl | ⟨n, hn', rfl⟩
    · constructor
      · intro _; exact Nat.zero_le _
      · intro _
        have h0 := nI_pos' (n := j) (by omega)
        exact Int32.le_trans (by decide) h0
    · rw [(ln_nI hn').2.2, nI_cmp (by omega) (by omega)]
  rw [cmp]
  refine ⟨fun c x28 e28 => ?_, fun c => ⟨row, by rw [mR_sI]; exact hR, hkr, ?_, fun M40 e40 x41 e41 => ?_⟩⟩
  · have hjj : j = lnN vb := by omega
    rw [ln_max hvb, nI_add] at e28
    subst e28 hjj
    refine ⟨row, by rw [mR_sI]; exact hR, hkr, vp_in_nI (by omega) hb, fun M32 e32 M33 e33 M34 e34 M35 e35 => ?_⟩
    rw [nI_clamp (by omega), mI_sI_self, sI_sI, byte0] at e32
    have a7 : m1 (wr (mI M row) p (PP ++ vbs val (lnN vb))) (p + PP.length + lnN vb) 0 = wr (mI M row) p L := by
      rw [hLP, wr_app _ _ (PP ++ vbs val (lnN vb)), List.length_append, vbs_len, ← Nat.add_assoc]; rfl
    rw [a7] at e32
    subst e32
    rw [mI_sI_ne _ _ hne, nI_1] at e33
    subst e33
    rw [mI_sI_self, sI_sI, show m1 (mI M d) 1 (nI (p + PP.length + lnN vb + 1)) 2 = nI cn from by simp [m1, h2], nI_1] at e34
    subst e34
    rw [mI_sI_self, sI_sI, show m1 (m1 (mI M d) 1 (nI (p + PP.length + lnN vb + 1))) 2 (nI (cn + 1)) 3 = lt from by simp [m1, h3]] at e35
    subst e35
    rw [show p + PP.length + lnN vb + 1 = p + L.length from by omega]
    exact h
  · rw [nI_add]; exact vp_in_nI (by omega) hb
  · rw [nI_add, nI_clamp (by omega), mI_sI_self, sI_sI, Int8.toInt8_toInt32] at e40
    rw [nI_1] at e41
    subst e40 e41
    refine hag _ _ ⟨j + 1, by omega, rfl, ?_⟩ ?_
    · rw [vbs_s, ← List.append_assoc, wr_app _ _ (PP ++ vbs val j), List.length_append, vbs_len, ← Nat.add_assoc]
      simp only [wr, pb1]
      rw [show nI j - nI j / 8 * 8 = nI (j % 8) from pk_rem (a := j) (d := 8) (by omega) (by decide) (by decide)]
    · rw [nI_clamp (by omega), nI_clamp (by omega)]; omega
