/-! bytes written one behind the other -/
def wr (f : Nat → Int32) : Nat → List Int32 → (Nat → Int32)
  | _, [] => f
  | a, x :: xs => wr (m1 f a x) (a + 1) xs
theorem wr_app (f : Nat → Int32) : ∀ (a : Nat) (x y : List Int32), wr f a (x ++ y) = wr (wr f a x) (a + x.length) y
  | a, [], y => by simp [wr]
  | a, b :: x, y => by
    simp only [List.cons_append, wr, List.length_cons]
    rw [wr_app _ (a + 1) x y, show a + 1 + x.length = a + (x.length + 1) from by omega]
termination_by a x => x.length
theorem wr_out (f : Nat → Int32) : ∀ (xs : List Int32) (a j : Nat), (j < a ∨ a + xs.length ≤ j) → wr f a xs j = f j
  | [], _, _, _ => rfl
  | x :: xs, a, j, h => by
    simp only [wr, List.length_cons] at h ⊢
    rw [wr_out _ xs (a + 1) j (by omega), m1_ne _ _ (by omega)]
theorem wr_Lie (f : Nat → Int32) : ∀ (xs : List Int32) (a : Nat), Lie (wr f a xs) a xs
  | [], _ => trivial
  | x :: xs, a => ⟨by simp only [wr]; rw [wr_out _ xs (a + 1) a (by omega), m1_self], wr_Lie _ xs (a + 1)⟩
theorem wr_keep {f : Nat → Int32} {bs xs : List Int32} {a b : Nat} (h : Lie f b bs) (hd : b + bs.length ≤ a ∨ a + xs.length ≤ b) : Lie (wr f a xs) b bs :=
  Lie_move h (fun j hj => wr_out _ _ _ _ (by omega))
theorem wr_get (f : Nat → Int32) (xs : List Int32) (a j : Nat) (h : j < xs.length) : wr f a xs (a + j) = xs.getD j 0 := Lie_get (wr_Lie f xs a) h
/-- the bytes of a number, the highest first -/
def pb1 (v : Int64) (s : Nat) : Int32 := ((v >>> ((8 * nI s).toInt64 &&& 63)).toInt32).toInt8.toInt32
def pb (v : Int64) : Nat → List Int32
  | 0 => []
  | n + 1 => pb1 v n :: pb v n
theorem pb_len (v : Int64) : ∀ n, (pb v n).length = n
  | 0 => rfl
  | n + 1 => by simp [pb, pb_len v n]
theorem By_8 (x : Int32) : By x.toInt8.toInt32 := by
  unfold By
  rw [Int8.toInt8_toInt32]
theorem pb_By (v : Int64) : ∀ n, Bys (pb v n)
  | 0 => fun p hp => by cases hp
  | n + 1 => fun p hp => by
    simp only [pb, List.mem_cons] at hp
    rcases hp with rfl | hp
    · exact By_8 _
    · exact pb_By v n p hp
theorem putB_wr (f : Nat → Int32) (a n : Nat) (v : Int64) : ∀ k, k ≤ n → putB f a n v k = wr f a ((pb v n).take k) := by
  have key : ∀ m j, j < m → (pb v m).getD j 0 = pb1 v (m - 1 - j) := by
    intro m
    induction m with
    | zero => intro j hj; omega
    | succ m ih =>
      intro j hj
      cases j with
      | zero => rfl
      | succ j =>
        simp only [pb, List.getD_cons_succ]
        rw [ih j (by omega)]
        congr 1
        omega
  intro k
  induction k with
  | zero => intro _; rfl
  | succ k ih =>
    intro hk
    have hl : ((pb v n).take k).length = k := by rw [List.length_take, pb_len]; omega
    have hlt : k < (pb v n).length := by rw [pb_len]; omega
    have e : (pb v n).take (k + 1) = (pb v n).take k ++ [pb1 v (n - 1 - k)] := by
      rw [List.take_succ_eq_append_getElem hlt]
      congr 2
      rw [← key n k (by omega)]
      simp [List.getD, hlt]
    rw [e, wr_app, hl]
    simp only [putB, wr]
    rw [ih (by omega)]
    congr 1
    unfold pb1
    rw [Int8.toInt8_toInt32]
    rw [show (nI n - 1) - nI k = nI (n - 1 - k) from by rw [show (1 : Int32) = nI 1 from rfl, pk_sub (by omega), pk_sub (by omega)]]
theorem w_put {Y : Ly} {row a n : Nat} {v : Int64} {M : Mm} {Kn : Mm → Prop} (hk : yK Y row = 100) (hn : a + n ≤ yN Y row) (hb : yN Y row < 2 ^ 31) (h : Kn (sI M row (wr (mI M row) a (pb v n)))) : f_X1_put Y row (nI a) (nI n) v M Kn := by
  refine s_put hk hn hb ?_
  rw [putB_wr _ _ _ _ n (Nat.le_refl _), List.take_of_length_le (by rw [pb_len]; omega)]
  exact h
theorem b255 (x : Int32) : x.toInt8.toInt32 &&& 255 = x &&& 255 := by
  rw [← Int32.toBitVec_inj, Int32.toBitVec_and, Int32.toBitVec_and, Int8.toBitVec_toInt32, Int32.toBitVec_toInt8]
  apply BitVec.eq_of_getLsbD_eq
  intro i hi
  rw [BitVec.getLsbD_and, BitVec.getLsbD_and]
  by_cases h8 : i < 8
  · rw [BitVec.getLsbD_signExtend, BitVec.signExtend_eq_setWidth_of_le _ (by decide)]
    simp [hi, h8]
  · have : (255 : Int32).toBitVec.getLsbD i = false := by
      have : ∀ j : Fin 32, ¬ j.val < 8 → (255 : Int32).toBitVec.getLsbD j.val = false := by decide +kernel
      exact this ⟨i, hi⟩ h8
    rw [this, Bool.and_false, Bool.and_false]
theorem m8_pb1 (v : Int64) (s : Nat) : pb1 v s &&& 255 = ((v >>> ((8 * nI s).toInt64 &&& 63)).toInt32) &&& 255 := b255 _
/-- the model's put: bytes behind the tape -/
def mq (M : Mm) (v t : Nat) (xs : List Int32) (n : Nat) : Mm := sI (sI M t (wr (mI M t) n (m8 xs))) v (m1 (mI M v) 11 (nI (n + xs.length)))
theorem sI_comm (M : Mm) {a b : Nat} (f g : Nat → Int32) (h : a ≠ b) : sI (sI M a f) b g = sI (sI M b g) a f := by
  obtain ⟨I, J, R⟩ := M
  show (m1 (m1 I a f) b g, J, R) = (m1 (m1 I b g) a f, J, R)
  rw [m1_swap _ _ _ h]
theorem mq_v (M : Mm) (v t : Nat) (xs : List Int32) (n : Nat) : mI (mq M v t xs n) v = m1 (mI M v) 11 (nI (n + xs.length)) := by unfold mq; rw [mI_sI_self]
theorem mq_t (M : Mm) {v t : Nat} (xs : List Int32) (n : Nat) (h : t ≠ v) : mI (mq M v t xs n) t = wr (mI M t) n (m8 xs) := by unfold mq; rw [mI_sI_ne _ _ h, mI_sI_self]
theorem mq_n (M : Mm) {v t a : Nat} (xs : List Int32) (n : Nat) (h : a ≠ v) (h2 : a ≠ t) : mI (mq M v t xs n) a = mI M a := by unfold mq; rw [mI_sI_ne _ _ h, mI_sI_ne _ _ h2]
theorem mq_J (M : Mm) (v t : Nat) (xs : List Int32) (n : Nat) : mJ (mq M v t xs n) = mJ M := rfl
theorem mq_R (M : Mm) (v t : Nat) (xs : List Int32) (n : Nat) : mR (mq M v t xs n) = mR M := rfl
theorem mq_nil {M : Mm} {v t n : Nat} (h : mI M v 11 = nI n) : mq M v t [] n = M := by
  unfold mq
  simp only [m8, List.map_nil, wr, List.length_nil, Nat.add_zero]
  rw [sI_same, ← h, m1_same, sI_same]
theorem mq_mq (M : Mm) {v t : Nat} (xs ys : List Int32) (n : Nat) (h : t ≠ v) : mq (mq M v t xs n) v t ys (n + xs.length) = mq M v t (xs ++ ys) n := by
  rw [mq, mq_t _ _ _ h, mq_v, m1_m1]
  unfold mq
  rw [sI_comm _ _ _ (Ne.symm h), sI_sI, sI_sI, m8, m8, m8, List.map_append, wr_app, List.length_map, List.length_append, Nat.add_assoc]
theorem w_mput {Y : Ly} {v t m n : Nat} {x : Int64} {M : Mm} {Kn : Mm → Prop} (hkv : yK Y v = 12) (hR : mR M v 10 = some t) (hkt : yK Y t = 101) (hne : t ≠ v) (h11 : mI M v 11 = nI m) (hn : m + n ≤ yN Y t) (hb : yN Y t < 2 ^ 31) (hn8 : n ≤ 8) (h : Kn (mq M v t (pb x n) m)) : f_X12_put Y v x (nI n) M Kn := by
  unfold f_X12_put
  intro x1 e1
  subst e1
  have g : ∀ (k : Nat) (M' : Mm) (K2 : Mm → Prop), k ≤ 8 → mR M' v 10 = some t → ∀ m', mI M' v 11 = nI m' → m' + k ≤ yN Y t → K2 (mq M' v t (pb x k) m') → ∃ n, LOOP2 (L_X12_put_5 Y v x K2) n (nI k - 1) M' := by
    intro k
    induction k with
    | zero =>
      intro M' K2 _ _ m' h11' _ hK
      refine ⟨1, ?_⟩
      refine ⟨fun c => ?_, fun c => absurd (show (nI 0 - 1 : Int32) < 0 from by decide) c⟩
      rw [show pb x 0 = [] from rfl, mq_nil h11'] at hK
      exact hK
    | succ k ih =>
      intro M' K2 hk8 hR' m' h11' hm hK
      rw [show nI (k + 1) - 1 = nI k from nI_pred k]
      obtain ⟨r, hr⟩ := ih (mq M' v t [pb1 x k] m') K2 (by omega) (by rw [mq_R]; exact hR') (m' + 1) (by rw [mq_v]; simp [m1]) (by omega) (by
        have := mq_mq M' [pb1 x k] (pb x k) m' hne
        rw [show m' + [pb1 x k].length = m' + 1 from rfl] at this
        rw [this]
        exact hK)
      refine ⟨r + 1, ?_⟩
      show L_X12_put_5 Y v x K2 (nI k) M' (LOOP2 (L_X12_put_5 Y v x K2) r)
      unfold L_X12_put_5
      refine ⟨fun c => absurd c (nI_pos (by omega)), fun c => ⟨hkv, t, hR', hkt, ?_, fun M9 e9 M10 e10 x11 e11 => ?_⟩⟩
      · rw [h11']; exact vp_in_nI (by omega) hb
      · rw [h11', nI_clamp (by omega)] at e9
        subst e9
        rw [mI_sI_ne _ _ (Ne.symm hne), h11', nI_1] at e10
        subst e10
        rw [show nI k + (-1) = nI k - 1 from by rw [Int32.sub_eq_add_neg]] at e11
        subst e11
        have : mq M' v t [pb1 x k] m' = sI (sI M' t (m1 (mI M' t) m' ((x >>> ((8 * nI k).toInt64 &&& 63)).toInt32 &&& 255))) v (m1 (mI M' v) 11 (nI (m' + 1))) := by
          unfold mq
          simp only [m8, List.map_cons, List.map_nil, wr, List.length_cons, List.length_nil]
          rw [m8_pb1]
        rw [← this]
        exact hr
  exact g n M Kn hn8 hR m h11 hn h
