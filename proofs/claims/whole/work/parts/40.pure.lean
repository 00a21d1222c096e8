/-! bytes that lie in a row, and what is read of them -/
def Lie (f : Nat → Int32) : Nat → List Int32 → Prop
  | _, [] => True
  | a, b :: bs => f a = b ∧ Lie f (a + 1) bs
theorem Lie_get {f : Nat → Int32} : ∀ {bs : List Int32} {a j : Nat}, Lie f a bs → j < bs.length → f (a + j) = bs.getD j 0
  | [], _, _, _, h => absurd h (by simp)
  | b :: bs, a, 0, h, _ => h.1
  | b :: bs, a, j + 1, h, hj => by
    have := Lie_get (j := j) h.2 (by simpa using hj)
    rw [show a + (j + 1) = a + 1 + j from by omega, this]
    rfl
theorem Lie_of {f : Nat → Int32} : ∀ {bs : List Int32} {a : Nat}, (∀ j, j < bs.length → f (a + j) = bs.getD j 0) → Lie f a bs
  | [], _, _ => trivial
  | b :: bs, a, h => ⟨h 0 (by simp), Lie_of (fun j hj => by
    have := h (j + 1) (by simpa using hj)
    rw [show a + 1 + j = a + (j + 1) from by omega, this]
    rfl)⟩
theorem Lie_app {f : Nat → Int32} : ∀ {x y : List Int32} {a : Nat}, Lie f a (x ++ y) ↔ Lie f a x ∧ Lie f (a + x.length) y
  | [], y, a => by simp [Lie]
  | b :: x, y, a => by
    simp only [List.cons_append, Lie, List.length_cons, Lie_app (x := x), and_assoc, show a + (x.length + 1) = a + 1 + x.length from by omega]
theorem Lie_drop {f : Nat → Int32} {bs : List Int32} {a : Nat} (h : Lie f a bs) (n : Nat) (hn : n ≤ bs.length) : Lie f (a + n) (bs.drop n) := by
  have h' := h
  rw [← List.take_append_drop n bs, Lie_app] at h'
  have := h'.2
  rwa [List.length_take, Nat.min_eq_left hn] at this
theorem Lie_take {f : Nat → Int32} {bs : List Int32} {a : Nat} (h : Lie f a bs) (n : Nat) : Lie f a (bs.take n) := by
  have h' := h
  rw [← List.take_append_drop n bs, Lie_app] at h'
  exact h'.1
theorem Lie_move {f g : Nat → Int32} {bs : List Int32} {a b : Nat} (h : Lie f a bs) (e : ∀ j, j < bs.length → g (b + j) = f (a + j)) : Lie g b bs :=
  Lie_of (fun j hj => by rw [e j hj]; exact Lie_get h hj)
theorem Lie_fun {f : Nat → Int32} : ∀ {x y : List Int32} {a : Nat}, Lie f a x → Lie f a y → x.length = y.length → x = y
  | [], [], _, _, _, _ => rfl
  | [], _ :: _, _, _, _, h => by simp at h
  | _ :: _, [], _, _, _, h => by simp at h
  | b :: x, c :: y, a, h, k, e => by
    rw [Lie_fun (x := x) (y := y) h.2 k.2 (by simpa using e), ← h.1, ← k.1]
def vrz (z : Int64) (i : Nat) (p : Int32) : Int64 := z ||| (((p &&& 127).toInt64) <<< ((7 * nI i).toInt64 &&& 63))
def vr : Nat → Int64 → List Int32 → Option (Int64 × List Int32)
  | _, _, [] => none
  | i, z, p :: ps =>
    if 10 ≤ i then none
    else if p < 0 then vr (i + 1) (vrz z i p) ps
    else if (0 < i ∧ p = 0) ∨ (i = 9 ∧ ¬ p = 1) then none
    else some (vrz z i p, ps)
theorem vr_rest : ∀ {bs : List Int32} {i : Nat} {z w : Int64} {r : List Int32}, vr i z bs = some (w, r) → ∃ x, bs = x ++ r ∧ 0 < x.length ∧ ∀ y, vr i z (x ++ y) = some (w, y)
  | [], _, _, _, _, h => by simp [vr] at h
  | p :: ps, i, z, w, r, h => by
    simp only [vr] at h
    split at h
    · cases h
    · next h10 =>
      split at h
      · next hp =>
        obtain ⟨x, e, hx, k⟩ := vr_rest h
        refine ⟨p :: x, by rw [e]; rfl, by simp, fun y => ?_⟩
        simp only [List.cons_append, vr, if_neg h10, if_pos hp, k y]
      · next hp =>
        split at h
        · cases h
        · next hq =>
          cases h
          refine ⟨[p], rfl, by simp, fun y => ?_⟩
          simp only [List.cons_append, List.nil_append, vr, if_neg h10, if_neg hp, if_neg hq]
theorem vr_len {bs : List Int32} {i : Nat} {z w : Int64} {r : List Int32} (h : vr i z bs = some (w, r)) : r.length < bs.length := by
  obtain ⟨x, e, hx, _⟩ := vr_rest h
  rw [e, List.length_append]; omega
theorem vr_drop {bs : List Int32} {i : Nat} {z w : Int64} {r : List Int32} (h : vr i z bs = some (w, r)) : r = bs.drop (bs.length - r.length) := by
  obtain ⟨x, e, hx, _⟩ := vr_rest h
  rw [e, List.length_append, show x.length + r.length - r.length = x.length from by omega, List.drop_left]
def uzz (z : Int64) : Int64 := ((z.toUInt64 >>> ((1 : Int32).toInt64.toUInt64 &&& Int64.toUInt64 63)).toInt64) ^^^ (-(z &&& 1))
theorem and1_cases (z : Int64) : z &&& 1 = 0 ∨ z &&& 1 = 1 := by
  have h : ∀ b : BitVec 64, b &&& 1#64 = 0#64 ∨ b &&& 1#64 = 1#64 := by
    intro b
    have : (b &&& 1#64).toNat = b.toNat % 2 := by
      rw [BitVec.toNat_and, show (1#64).toNat = 2 ^ 1 - 1 from rfl, Nat.and_two_pow_sub_one_eq_mod]
    rcases Nat.mod_two_eq_zero_or_one b.toNat with e | e
    · left; apply BitVec.eq_of_toNat_eq; rw [this, e]; rfl
    · right; apply BitVec.eq_of_toNat_eq; rw [this, e]; rfl
  rcases h z.toBitVec with e | e
  · left; rw [← Int64.toBitVec_inj, Int64.toBitVec_and]; exact e
  · right; rw [← Int64.toBitVec_inj, Int64.toBitVec_and]; exact e
theorem uzz_m (z : Int64) : uzz z = if z &&& 1 = 0 then (z.toUInt64 >>> ((1 : Int32).toInt64.toUInt64 &&& Int64.toUInt64 63)).toInt64 else -((z.toUInt64 >>> ((1 : Int32).toInt64.toUInt64 &&& Int64.toUInt64 63)).toInt64) - 1 := by
  unfold uzz
  rcases and1_cases z with e | e
  · rw [e, if_pos rfl, show (-(0 : Int64)) = 0 from rfl, Int64.xor_zero]
  · rw [e, if_neg (by decide), show (-(1 : Int64)) = -1 from rfl, Int64.xor_neg_one, Int64.not_eq_neg_sub]
/-- how many bytes a length tells -/
def nn (z : Int64) : Nat := (uzz z).toInt.toNat
def badT (z : Int64) (r : List Int32) : Prop := (uzz z).toInt < -1 ∨ (r.length : Int) < (uzz z).toInt
abbrev Rc : Type := Int64 × Int64 × Int64 × Nat × Int64 × Nat × Nat
/-- a record at the beginning of these bytes -/
def RD (bs : List Int32) (c : Rc) : Prop :=
  ∃ (z : Int64) (r0 : List Int32) (b1 : List Int32) (t : Int64) (b2 : List Int32) (o : Int64) (b3 : List Int32) (k : Int64) (b4 : List Int32) (v : Int64) (b5 : List Int32),
    vr 0 0 bs = some (z, r0) ∧ 0 ≤ (uzz z).toInt ∧ (uzz z).toInt ≤ (r0.length : Int) ∧ r0.take (nn z) = 0 :: b1 ∧ vr 0 0 b1 = some (t, b2) ∧ vr 0 0 b2 = some (o, b3) ∧ vr 0 0 b3 = some (k, b4) ∧ ¬ badT k b4 ∧ vr 0 0 (b4.drop (nn k)) = some (v, b5) ∧ ¬ badT v b5 ∧ b5.drop (nn v) = [0] ∧
    c = (uzz t, uzz o, uzz k, bs.length - r0.length + nn z - b4.length, uzz v, bs.length - r0.length + nn z - b5.length, bs.length - r0.length + nn z)
theorem RD_fun {bs : List Int32} {c d : Rc} (h : RD bs c) (k : RD bs d) : c = d := by
  obtain ⟨z, r0, b1, t, b2, o, b3, k0, b4, v, b5, e1, e2, e3, e4, e5, e6, e7, e8, e9, e10, e11, e12⟩ := h
  obtain ⟨z', r0', b1', t', b2', o', b3', k0', b4', v', b5', f1, f2, f3, f4, f5, f6, f7, f8, f9, f10, f11, f12⟩ := k
  rw [e1] at f1; cases f1
  rw [e4] at f4; cases f4
  rw [e5] at f5; cases f5
  rw [e6] at f6; cases f6
  rw [e7] at f7; cases f7
  rw [e9] at f9; cases f9
  rw [e12, f12]
