theorem setB_wr (f : Nat → Int32) (a n : Nat) (v : Int64) : ∀ k, k ≤ n → setB f a n v k = wr f a ((m8 (pb v n)).take k) := by
  have key : ∀ m j, j < m → (pb v m).getD j 0 = pb1 v (m - 1 - j) := by
    intro m
    induction m with
    | zero => intro j hj; omega
    | succ m ih =>
      intro j hj
      cases j with
      | zero => rfl
      | succ j =>
        simp only [pb, List.getD_cons_succ]
        rw [ih j (by omega)]
        congr 1
        omega
  intro k
  induction k with
  | zero => intro _; rfl
  | succ k ih =>
    intro hk
    have hl : ((m8 (pb v n)).take k).length = k := by rw [List.length_take, m8_len, pb_len]; omega
    have hlt : k < (pb v n).length := by rw [pb_len]; omega
    have e : (m8 (pb v n)).take (k + 1) = (m8 (pb v n)).take k ++ [pb1 v (n - 1 - k) &&& 255] := by
      apply take_s
      rw [m8, List.getElem?_map]
      have : (pb v n)[k]? = some (pb1 v (n - 1 - k)) := by
        rw [← key n k (by omega)]
        simp [List.getD, hlt]
      rw [this]; rfl
    rw [e, wr_app, hl]
    simp only [setB, wr]
    rw [ih (by omega)]
    congr 1
    rw [m8_pb1]
    rw [show (nI n - 1) - nI k = nI (n - 1 - k) from by rw [show (1 : Int32) = nI 1 from rfl, pk_sub (by omega), pk_sub (by omega)]]
theorem w_set {Y : Ly} {row a n : Nat} {v : Int64} {M : Mm} {Kn : Mm → Prop} (hk : yK Y row = 101) (hn : a + n ≤ yN Y row) (hb : yN Y row < 2 ^ 31) (h : Kn (sI M row (wr (mI M row) a (m8 (pb v n))))) : f_X12_set Y row (nI a) v (nI n) M Kn := by
  refine s_set hk hn hb ?_
  rw [setB_wr _ _ _ _ n (Nat.le_refl _), List.take_of_length_le (by rw [m8_len, pb_len]; omega)]
  exact h
theorem m8_fB {g : Nat → Int32} {a j : Nat} {b : Bt} (h : Lie g a (m8 b)) (hj : j < b.length) : g (a + j) = fB b j &&& 255 := by
  rw [Lie_get h (by rw [m8_len]; exact hj)]
  obtain ⟨x, hx⟩ := lt_some hj
  simp [m8, fB, List.getD, List.getElem?_map, hx]
theorem mo_fB {g : Nat → Int32} {a i n : Nat} {b : Bt} (h : Lie g a (m8 b)) (hn : n = 2 ∨ n = 4 ∨ n = 8) (hi : i + n ≤ b.length) : moS g (a + i) n = beS (fB b) i n := by
  symm
  refine beS_moS hn (fun j hj => ?_)
  rw [Nat.add_assoc]
  exact m8_fB h (by omega)
theorem based_m8 {f : Nat → Int32} {a : Nat} {b : Bt} (en : Int64) (h : Lie f a (m8 b)) (hn : 61 ≤ b.length) : Lie (wr f a (m8 (pb en 8))) a (m8 (based en b)) := by
  unfold based
  rw [show m8 (pb en 8 ++ b.drop 8) = m8 (pb en 8) ++ m8 (b.drop 8) from List.map_append, Lie_app]
  refine ⟨wr_Lie _ _ _, ?_⟩
  rw [m8_len, pb_len, m8_drop]
  exact wr_keep (Lie_drop h 8 (by rw [m8_len]; omega)) (Or.inr (by rw [m8_len, pb_len]; omega))
theorem based_By {b : Bt} (en : Int64) (h : Bys b) : Bys (based en b) := Bys_app (pb_By _ _) (Bys_drop h 8)
/-- a batch more in the model's rows -/
theorem BatM_snoc {ol ba ln sg f f' : Nat → Int32} {ht l k : Nat} {B : List Bm} {b : Bt} (h : BatM ol ba ln sg f ht B) (hf : ∀ j, j < ht → f' j = f j) (hb : Lie f' ht (m8 b)) (hBy : Bys b) : BatM (m1 ol B.length (nI l)) (m1 ba B.length (nI ht)) (m1 ln B.length (nI b.length)) (m1 sg B.length (nI k)) f' (ht + b.length) (B ++ [(l, k, ht, b)]) := by
  obtain ⟨h1, h2, h3, h4, h5⟩ := h
  simp only [BatM, List.map_append, List.map_cons, List.map_nil]
  refine ⟨?_, ?_, ?_, ?_, fun x hx => ?_⟩
  · have := Ar_snoc h1 l; rw [List.length_map] at this; exact this
  · have := Ar_snoc h2 ht; rw [List.length_map] at this; exact this
  · have := Ar_snoc h3 b.length; rw [List.length_map] at this; exact this
  · have := Ar_snoc h4 k; rw [List.length_map] at this; exact this
  · rcases List.mem_append.mp hx with hx | hx
    · obtain ⟨g1, g2, g3⟩ := h5 x hx
      refine ⟨by omega, Lie_move g2 (fun j hj => hf _ ?_), g3⟩
      rw [m8_len] at hj
      unfold mN at g1
      omega
    · simp only [List.mem_singleton] at hx
      subst hx
      exact ⟨Nat.le_refl _, hb, hBy⟩
theorem Ix {Y : Ly} {q : Nat → Nat → Nat} {nL W nB : Nat} (hC : SC Y q nL W nB) (c d a b : Nat) (h : ¬ (c = a ∧ d = b)) (M : Mm) (f : Nat → Int32) : mI (sI M (q a b) f) (q c d) = mI M (q c d) := mI_sI_ne _ _ (q_ne hC h)
def sv (hp : Nat) : Nat → Nat → Prop := fun a b => a = 20 ∧ (b = 0 ∨ b = 20 ∨ b = 21 ∨ b = 22 ∨ b = 23 ∨ b = hp ∨ b = 28)
set_option maxRecDepth 8000 in
theorem m_app200 {Y : Ly} {q : Nat → Nat → Nat} {nL W nB hp ht l k c : Nat} {B : List Bm} {bt : Bt} {M : Mm} {Kn : Int32 → Mm → Prop} (hC : SC Y q nL W nB) (hM : SM q (mR M)) (hH : hpR q (mR M) hp) (hl : l ≤ nL) (hc : c = 11 ∨ c = 68) (hn : mI M (q 20 0) 18 = nI B.length) (h25 : mI M (q 20 0) 25 = nI ht) (hB : BatM (mI M (q 20 20)) (mI M (q 20 21)) (mI M (q 20 22)) (mI M (q 20 23)) (mI M (q 20 hp)) ht B) (hbl : B.length < 4500) (hht : ht + bt.length ≤ 540000) (hL : Lie (mI M (q 20 c)) 0 (m8 bt)) (hBy : Bys bt) (h61 : 61 ≤ bt.length) (hcl : bt.length ≤ yN Y (q 20 c))
    (h : ∀ M', FrM q (sv hp) M M' → mR M' = mR M → (∀ j, j ≠ 18 → j ≠ 25 → mI M' (q 20 0) j = mI M (q 20 0) j) → mJ M' (q 20 0) = mJ M (q 20 0) → mI M' (q 20 0) 18 = nI (B.length + 1) → mI M' (q 20 0) 25 = nI (ht + bt.length) → BatM (mI M' (q 20 20)) (mI M' (q 20 21)) (mI M' (q 20 22)) (mI M' (q 20 23)) (mI M' (q 20 hp)) (ht + bt.length) (B ++ [(l, k, ht, based (mJ M (q 20 28) l) bt)]) → mJ M' (q 20 28) = m1 (mJ M (q 20 28)) l (mJ M (q 20 28) l + (cntB bt).toInt64) → Kn (if mI M (q 20 0) 5 = 0 then 1 else -3) M') : f_X12_append_200 Y (q 20 0) (nI l) (q 20 c) (nI bt.length) Kn (nI k) M := by
  have hd := sdims hC
  obtain ⟨hhp, r23, r24⟩ := hH
  obtain ⟨kh, nh⟩ := hp_k hC hhp
  have kc : yK Y (q 20 c) = 101 := by
    rcases hc with rfl | rfl
    · exact sk_20_11 hC
    · exact sk_20_68 hC
  have hcb : yN Y (q 20 c) < 2 ^ 31 := by
    rcases hc with rfl | rfl
    · rw [sn_20_11 hC]; decide
    · rw [sn_20_68 hC]; decide
  have ne : hp ≠ 0 ∧ hp ≠ 20 ∧ hp ≠ 21 ∧ hp ≠ 22 ∧ hp ≠ 23 ∧ hp ≠ 28 ∧ hp ≠ c := by omega
  obtain ⟨en, hen⟩ : ∃ en, en = mJ M (q 20 28) l := ⟨_, rfl⟩
  rw [← hen] at h
  have hbl2 := based_len en h61
  unfold f_X12_append_200
  refine LOOP2_inv (fun x31 M32 => ∃ j, j ≤ bt.length ∧ x31 = nI j ∧ M32 = sI M (q 20 hp) (cp (mI M (q 20 hp)) (mI M (q 20 c)) 0 ht j)) (fun x31 _ => bt.length - x31.toNatClampNeg) ?_ _ _ ⟨0, by omega, rfl, by rw [cp_0, sI_same]⟩
  rintro x31 M32 again ⟨j, hj, rfl, rfl⟩ hag
  have no : ∀ d f, d ≠ hp → mI (sI M (q 20 hp) f) (q 20 d) = mI M (q 20 d) := fun d f hd => I_ne hC _ _ (by omega)
  unfold L_X12_append_203
  rw [nI_cmp (by omega) (by omega)]
  refine ⟨fun cc => ?_, fun cc => ⟨_, r23, kc, vp_in_nI (by omega) hcb, kh, ?_, fun M69 e69 x70 e70 => ?_⟩⟩
  rotate_left
  · rw [no 0 _ (by omega), h25, nI_add, nh]; exact vp_in_nI (by omega) (by decide)
  · rw [no 0 _ (by omega), h25, nI_add, nI_clamp (by omega), nI_clamp (by omega), mI_sI_self, sI_sI, no c _ (by omega)] at e69
    rw [nI_1] at e70
    subst e70
    have e69' : M69 = sI M (q 20 hp) (cp (mI M (q 20 hp)) (mI M (q 20 c)) 0 ht (j + 1)) := by
      rw [e69]
      congr 1
      funext y
      unfold cp
      simp only [m1]
      by_cases e : y = ht + j
      · subst e
        rw [if_pos rfl, if_pos (by omega)]
        congr 1; omega
      · rw [if_neg e]
        by_cases g : ht ≤ y ∧ y < ht + j
        · rw [if_pos g, if_pos (by omega)]
        · rw [if_neg g, if_neg (by omega)]
    subst e69'
    refine hag _ _ ⟨j + 1, by omega, rfl, rfl⟩ ?_
    rw [nI_clamp (by omega), nI_clamp (by omega)]; omega
  have hjn : j = bt.length := by omega
  subst hjn
  refine ⟨_, r23, _, sm_27 hM, sk_20_28 hC, by rw [sn_20_28 hC]; exact vp_in_nI (by omega) (by decide), ?_⟩
  rw [no 0 _ (by omega), h25, mJ_sI, nI_clamp (by omega), ← hen]
  refine w_set (n := 8) kh (by omega) (by omega) ?_
  rw [mI_sI_self, sI_sI]
  obtain ⟨f', hf'⟩ : ∃ f', f' = wr (cp (mI M (q 20 hp)) (mI M (q 20 c)) 0 ht bt.length) ht (m8 (pb en 8)) := ⟨_, rfl⟩
  rw [← hf']
  have hf1 : ∀ y, y < ht → f' y = mI M (q 20 hp) y := fun y hy => by
    rw [hf', wr_out _ _ _ _ (by omega), cp_out (by omega)]
  have hf2 : Lie f' ht (m8 (based en bt)) := by
    rw [hf']
    exact based_m8 en (cp_Lie hL (by rw [m8_len]; omega)) h61
  clear hf'
  simp only [mR_sI]
  refine ⟨_, sm_19 hM, sk_20_20 hC, by rw [no 0 _ (by omega), hn, sn_20_20 hC]; exact vp_in_nI hbl (by decide), fun M42 e42 => ?_⟩
  rw [no 0 _ (by omega), hn, nI_clamp (by omega), no 20 _ (by omega)] at e42
  subst e42
  simp only [mR_sI]
  refine ⟨_, sm_20 hM, sk_20_21 hC, by rw [I_ne hC _ _ (by omega), no 0 _ (by omega), hn, sn_20_21 hC]; exact vp_in_nI hbl (by decide), fun M46 e46 => ?_⟩
  rw [Ix hC 20 21 20 20 (by omega), Ix hC 20 0 20 20 (by omega), no 0 _ (by omega), no 21 _ (by omega), hn, h25, nI_clamp (by omega)] at e46
  subst e46
  simp only [mR_sI]
  refine ⟨_, sm_21 hM, sk_20_22 hC, by rw [I_ne hC _ _ (by omega), I_ne hC _ _ (by omega), no 0 _ (by omega), hn, sn_20_22 hC]; exact vp_in_nI hbl (by decide), fun M50 e50 => ?_⟩
  rw [Ix hC 20 22 20 21 (by omega), Ix hC 20 0 20 21 (by omega), Ix hC 20 22 20 20 (by omega), Ix hC 20 0 20 20 (by omega), no 0 _ (by omega), no 22 _ (by omega), hn, nI_clamp (by omega)] at e50
  subst e50
  simp only [mR_sI]
  refine ⟨_, sm_22 hM, sk_20_23 hC, by rw [I_ne hC _ _ (by omega), I_ne hC _ _ (by omega), I_ne hC _ _ (by omega), no 0 _ (by omega), hn, sn_20_23 hC]; exact vp_in_nI hbl (by decide), fun M54 e54 M55 e55 => ?_⟩
  rw [Ix hC 20 23 20 22 (by omega), Ix hC 20 0 20 22 (by omega), Ix hC 20 23 20 21 (by omega), Ix hC 20 0 20 21 (by omega), Ix hC 20 23 20 20 (by omega), Ix hC 20 0 20 20 (by omega), no 0 _ (by omega), no 23 _ (by omega), hn, nI_clamp (by omega)] at e54
  have z54 : mI M54 (q 20 0) = mI M (q 20 0) := by rw [e54, I_ne hC _ _ (by omega), I_ne hC _ _ (by omega), I_ne hC _ _ (by omega), I_ne hC _ _ (by omega), no 0 _ (by omega)]
  rw [z54, h25, nI_add] at e55
  have F55 : FrM q (sv hp) M M55 := by
    rw [e55, e54]
    have s1 : ∀ M0 b f, (b = 0 ∨ b = 20 ∨ b = 21 ∨ b = 22 ∨ b = 23 ∨ b = hp ∨ b = 28) → FrM q (sv hp) M0 (sI M0 (q 20 b) f) := fun M0 b f hb => FrM_of (Fr_sI _ _ _ _ ⟨rfl, hb⟩)
    exact FrM_trans (FrM_trans (FrM_trans (FrM_trans (FrM_trans (s1 _ _ _ (by simp)) (s1 _ _ _ (by simp))) (s1 _ _ _ (by simp))) (s1 _ _ _ (by simp))) (s1 _ _ _ (by simp))) (s1 _ _ _ (by simp))
  have R55 : mR M55 = mR M := by rw [e55, e54]; rfl
  have J55 : mJ M55 = mJ M := by rw [e55, e54]; rfl
  have i0 : mI M55 (q 20 0) = m1 (mI M (q 20 0)) 25 (nI (ht + bt.length)) := by rw [e55, mI_sI_self]
  have i20 : mI M55 (q 20 20) = m1 (mI M (q 20 20)) B.length (nI l) := by rw [e55, I_ne hC _ _ (by omega), e54, I_ne hC _ _ (by omega), I_ne hC _ _ (by omega), I_ne hC _ _ (by omega), mI_sI_self]
  have i21 : mI M55 (q 20 21) = m1 (mI M (q 20 21)) B.length (nI ht) := by rw [e55, I_ne hC _ _ (by omega), e54, I_ne hC _ _ (by omega), I_ne hC _ _ (by omega), mI_sI_self]
  have i22 : mI M55 (q 20 22) = m1 (mI M (q 20 22)) B.length (nI bt.length) := by rw [e55, I_ne hC _ _ (by omega), e54, I_ne hC _ _ (by omega), mI_sI_self]
  have i23 : mI M55 (q 20 23) = m1 (mI M (q 20 23)) B.length (nI k) := by rw [e55, I_ne hC _ _ (by omega), e54, mI_sI_self]
  have ih : mI M55 (q 20 hp) = f' := by rw [e55, I_ne hC _ _ (by omega), e54, I_ne hC _ _ (by omega), I_ne hC _ _ (by omega), I_ne hC _ _ (by omega), I_ne hC _ _ (by omega), mI_sI_self]
  clear e55 e54 z54
  have hBat := BatM_snoc (l := l) (k := k) hB hf1 hf2 (based_By en hBy)
  rw [hbl2, ← i20, ← i21, ← i22, ← i23, ← ih] at hBat
  rw [R55]
  refine ⟨_, sm_27 hM, sk_20_28 hC, by rw [sn_20_28 hC]; exact vp_in_nI (by omega) (by decide), ?_⟩
  unfold f_X12_countOf
  have e18 : mI M55 (q 20 0) 18 = nI B.length := by rw [i0]; simp [m1, hn]
  rw [e18, R55]
  refine ⟨sk_20_0 hC, _, r23, _, sm_20 hM, sk_20_21 hC, by rw [sn_20_21 hC]; exact vp_in_nI hbl (by decide), ?_⟩
  rw [nI_clamp (by omega), show mI M55 (q 20 21) B.length = nI ht from by rw [i21, m1_self], show (57 : Int32) = nI 57 from rfl, nI_add]
  refine s_number (n := 4) kh (by omega) (by omega) (by omega) ?_
  rw [ih, mo_fB hf2 (by simp) (by omega)]
  refine ⟨by rw [sn_20_28 hC]; exact vp_in_nI (by omega) (by decide), fun M62 e62 M63 e63 => ?_⟩
  have ecnt : ((beS (fB (based en bt)) 57 4).toInt32) = cntB bt := by
    rw [← cnt_based en bt]; rfl
  rw [ecnt, J55, ← hen] at e62
  have i62 : mI M62 = mI M55 := by rw [e62]; rfl
  rw [i62, e18, nI_1] at e63
  have z63 : mI M63 (q 20 0) = m1 (mI M55 (q 20 0)) 18 (nI (B.length + 1)) := by rw [e63, mI_sI_self]
  have n63 : ∀ d, d ≠ 0 → mI M63 (q 20 d) = mI M55 (q 20 d) := fun d hd => by rw [e63, I_ne hC _ _ (by omega), i62]
  have J63 : mJ M63 = mJ M62 := by rw [e63]; rfl
  unfold f_X12_append_332 f_X12_append_345
  have key : Kn (if mI M (q 20 0) 5 = 0 then 1 else -3) M63 := by
    refine h M63 ?_ (by rw [e63]; show mR M62 = _; rw [e62]; exact R55) ?_ ?_ (by rw [z63]; simp [m1]) (by rw [z63, i0]; simp [m1]) ?_ ?_
    · refine FrM_trans F55 ?_
      rw [e63, e62]
      exact FrM_trans (FrM_of (Fr_sJ _ _ _ _ ⟨rfl, by simp⟩)) (FrM_of (Fr_sI _ _ _ _ ⟨rfl, by simp⟩))
    · intro y h18 h25'
      rw [z63, i0]; simp [m1, h18, h25']
    · rw [J63, e62, mJ_sJ_ne _ _ (q_ne hC (by omega)), J55]
    · rw [n63 _ (by omega), n63 _ (by omega), n63 _ (by omega), n63 _ (by omega), n63 _ (by omega)]
      exact hBat
    · rw [J63, e62, mJ_sJ_self]
  have e5 : mI M63 (q 20 0) 5 = mI M (q 20 0) 5 := by rw [z63, i0]; simp [m1]
  rw [e5]
  refine ⟨fun z => by rwa [if_pos z] at key, fun z => by rwa [if_neg z] at key⟩
