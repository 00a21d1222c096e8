/-! keys of a log in their order -/
theorem RF_lt {bs : List Int32} {c : Rc} (h : RF bs c) : rKa c < rC c := by
  obtain ⟨x0, z, x1, t, x2, o, x3, k, T1, x4, v, T2, y, h1, h2, h3, h4, h5, h6, h7, h8, h9, h10, h11, h12⟩ := h
  rw [h12]
  show x0.length + 1 + x1.length + x2.length + x3.length < x0.length + 2 + x1.length + x2.length + x3.length + T1.length + x4.length + T2.length
  omega
theorem rp_le {b : Bt} {rs : List Rc} (h : RS (b.drop 61) rs) (h61 : 61 ≤ b.length) {k k' : Nat} (hk : k ≤ k') : rp rs k ≤ rp rs k' := by
  unfold rp
  have : (rs.take k') = rs.take k ++ (rs.take k').drop k := by
    have := List.take_append_drop k (rs.take k')
    rw [List.take_take, Nat.min_eq_left hk] at this
    exact this.symm
  rw [this, List.map_append, List.sum_append]; omega
theorem bq_at {p k : Nat} {b : Bt} {a : Nat × Option (List Int32)} (h : (bq p b)[k]? = some a) : ∃ c, (rsB b)[k]? = some c ∧ a = rq b p k c := by
  unfold bq at h
  rw [List.getElem?_map, List.getElem?_zipIdx] at h
  cases hc : (rsB b)[k]? with
  | none => rw [hc] at h; cases h
  | some c => rw [hc] at h; cases h; exact ⟨c, rfl, by simp⟩
theorem aq_at : ∀ {X : List (Nat × Bt)} {r : Nat} {a : Nat × Option (List Int32)}, (aq X)[r]? = some a → ∃ j x k c, X[j]? = some x ∧ (rsB x.2)[k]? = some c ∧ a = rq x.2 x.1 k c ∧ r = (aq (X.take j)).length + k
  | [], r, a, h => by cases h
  | x :: X, r, a, h => by
    have e : aq (x :: X) = bq x.1 x.2 ++ aq X := rfl
    rw [e] at h
    by_cases z : r < (bq x.1 x.2).length
    · rw [List.getElem?_append_left z] at h
      obtain ⟨c, hc, ea⟩ := bq_at h
      exact ⟨0, x, r, c, rfl, hc, ea, by simp [aq]⟩
    · rw [List.getElem?_append_right (by omega)] at h
      obtain ⟨j, y, k, c, h1, h2, h3, h4⟩ := aq_at h
      refine ⟨j + 1, y, k, c, h1, h2, h3, ?_⟩
      have e2 : aq ((x :: X).take (j + 1)) = bq x.1 x.2 ++ aq (X.take j) := rfl
      rw [e2, List.length_append]; omega
theorem aq_ix {X : List (Nat × Bt)} {j k : Nat} {x : Nat × Bt} {c : Rc} (hx : X[j]? = some x) (hc : (rsB x.2)[k]? = some c) : (aq X)[(aq (X.take j)).length + k]? = some (rq x.2 x.1 k c) := by
  have e : aq X = aq (X.take j) ++ (bq x.1 x.2 ++ aq (X.drop (j + 1))) := by
    have : X = X.take j ++ x :: X.drop (j + 1) := by
      obtain ⟨h1, e1⟩ := List.getElem?_eq_some_iff.mp hx
      rw [← e1, ← List.drop_eq_getElem_cons h1, List.take_append_drop]
    conv => lhs; rw [this]
    unfold aq
    rw [List.flatMap_append, List.flatMap_cons]
  have hk : k < (rsB x.2).length := (List.getElem?_eq_some_iff.mp hc).1
  rw [e, List.getElem?_append_right (by omega), Nat.add_sub_cancel_left, List.getElem?_append_left (by rw [bq_len]; exact hk)]
  unfold bq
  rw [List.getElem?_map, zip_get hc]; rfl
theorem aq_dj {nL W nB l : Nat} {S : Nat → List Sg} (hG : Geo nL W nB S) (hOK : LogOK nL S) (hl : l ≤ nL) (hW : 1 ≤ W) {r r' : Nat} {a a' : Nat × Option (List Int32)} (h : (aq (PS (S l)))[r]? = some a) (h' : (aq (PS (S l)))[r']? = some a') (e : a.1 = a'.1) : r = r' := by
  obtain ⟨j, x, k, c, h1, h2, h3, h4⟩ := aq_at h
  obtain ⟨j', x', k', c', g1, g2, g3, g4⟩ := aq_at h'
  have hb := (BS_at (nL := nL) (W := W) (nB := nB) hOK hl h1).2
  have hb' := (BS_at (nL := nL) (W := W) (nB := nB) hOK hl g1).2
  obtain ⟨la, -, -, hrec⟩ := Bat_rec hb
  obtain ⟨la', -, -, hrec'⟩ := Bat_rec hb'
  obtain ⟨r1, r2, r3⟩ := rp_at hrec.1 hb.1 h2
  obtain ⟨s1, s2, s3⟩ := rp_at hrec'.1 hb'.1 g2
  have t1 := RF_lt r1
  have t2 := RF_lt s1
  rw [h3, g3] at e
  have e : x.1 + rp (rsB x.2) k + rKa c = x'.1 + rp (rsB x'.2) k' + rKa c' := e
  by_cases z : j = j'
  · subst z
    rw [h1] at g1; cases g1
    rcases Nat.lt_trichotomy k k' with w | w | w
    · have := rp_le hrec.1 hb.1 (show k + 1 ≤ k' from w)
      rw [rp_s h2] at this
      omega
    · omega
    · have := rp_le hrec.1 hb.1 (show k' + 1 ≤ k from w)
      rw [rp_s g2] at this
      omega
  · have := PS_dj hG hl hW h1 g1 z
    unfold Dsj at this
    omega
def dm (K : List (Option (List Int32))) (r : Nat) : Prop := ∃ key, K[r]? = some (some key) ∧ ∃ r', r < r' ∧ K[r']? = some (some key)
theorem lp_spec {key : List Int32} : ∀ {Q : KQ} {p : Nat}, lp Q key = some p → ∃ r : Nat, Q[r]? = some (p, some key) ∧ ∀ (r' : Nat) p', r < r' → ¬ Q[r']? = some (p', some key)
  | [], p, h => by cases h
  | (p0, x) :: Q, p, h => by
    have h : (match lp Q key with | some r => some r | none => if x = some key then some p0 else none) = some p := h
    cases e : lp Q key with
    | some r0 =>
      rw [e] at h
      cases h
      obtain ⟨r, h1, h2⟩ := lp_spec e
      refine ⟨r + 1, h1, fun r' p' hr => ?_⟩
      cases r' with
      | zero => omega
      | succ r' => exact h2 r' p' (by omega)
    | none =>
      rw [e] at h
      have h : (if x = some key then some p0 else none) = some p := h
      by_cases z : x = some key
      · rw [if_pos z] at h; cases h
        refine ⟨0, by rw [z]; rfl, fun r' p' hr c => ?_⟩
        cases r' with
        | zero => omega
        | succ r' => exact lp_in (List.mem_of_getElem? (show Q[r']? = some (p', some key) from c)) e
      · rw [if_neg z] at h; cases h
theorem gon_dm {nL W nB l : Nat} {S : Nat → List Sg} (hG : Geo nL W nB S) (hOK : LogOK nL S) (hl : l ≤ nL) (hW : 1 ≤ W) {j k : Nat} {x : Nat × Bt} {c : Rc} {now : Int32} (hx : (PS (S l))[j]? = some x) (hc : (rsB x.2)[k]? = some c) : gon (aq (PS (S l))) now (ftB x.2) (rq x.2 x.1 k c) c ↔ (dm ((aq (PS (S l))).map (fun a => a.2)) ((aq ((PS (S l)).take j)).length + k) ∨ (¬ rK c = -1 ∧ rV c = -1 ∧ ¬ (now - 1000).toInt64 < ftB x.2 + rT c)) := by
  have hix := aq_ix hx hc
  obtain ⟨r, er⟩ : ∃ r, r = (aq ((PS (S l)).take j)).length + k := ⟨_, rfl⟩
  obtain ⟨a, ea⟩ : ∃ a, a = rq x.2 x.1 k c := ⟨_, rfl⟩
  rw [← er, ← ea] at hix
  rw [← er, ← ea]
  have hsome : ∀ key, a.2 = some key → ¬ rK c = -1 := fun key h z => by rw [ea] at h; unfold rq at h; rw [if_pos z] at h; cases h
  have hK : ∀ (r' : Nat) (o : Option (List Int32)), ((aq (PS (S l))).map (fun a => a.2))[r']? = some o ↔ ∃ p' : Nat, (aq (PS (S l)))[r']? = some (p', o) := by
    intro r' o
    rw [List.getElem?_map]
    cases h : (aq (PS (S l)))[r']? with
    | none => exact ⟨(fun z => by cases z), (fun ⟨_, z⟩ => by cases z)⟩
    | some b => exact ⟨(fun z => by cases z; exact ⟨b.1, rfl⟩), (fun ⟨p', z⟩ => by cases z; rfl)⟩
  unfold gon dm
  constructor
  · rintro ⟨key, h1, h2 | h2⟩
    · left
      refine ⟨key, (hK r _).mpr ⟨a.1, by rw [hix, ← h1]⟩, ?_⟩
      have hin : lp (aq (PS (S l))) key ≠ none := lp_in (p := a.1) (List.mem_of_getElem? (by rw [hix, ← h1]))
      cases e : lp (aq (PS (S l))) key with
      | none => exact absurd e hin
      | some p =>
        obtain ⟨r2, g1, g2⟩ := lp_spec e
        rcases Nat.lt_trichotomy r r2 with w | w | w
        · exact ⟨r2, w, (hK r2 _).mpr ⟨p, g1⟩⟩
        · subst w
          rw [hix] at g1
          have : a = (p, some key) := Option.some.inj g1
          rw [e, this] at h2
          exact absurd rfl h2
        · exact absurd (show (aq (PS (S l)))[r]? = some (a.1, some key) by rw [hix, ← h1]) (g2 r a.1 w)
    · exact Or.inr ⟨hsome key h1, h2⟩
  · rintro (⟨key, h1, r', hr, h2⟩ | ⟨h0, h1, h2⟩)
    · obtain ⟨p1, h1⟩ := (hK r _).mp h1
      rw [hix] at h1
      have e1 : a = (p1, some key) := Option.some.inj h1
      obtain ⟨p2, h2⟩ := (hK r' _).mp h2
      refine ⟨key, by rw [e1], Or.inl (fun z => ?_)⟩
      obtain ⟨r2, g1, g2⟩ := lp_spec z
      have e2 := aq_dj hG hOK hl hW hix g1 rfl
      subst e2
      exact g2 r' p2 hr h2
    · rw [ea]
      unfold rq
      rw [if_neg h0]
      exact ⟨_, rfl, Or.inr ⟨h1, h2⟩⟩
noncomputable def kyB (b : Bt) (k : Nat) (c : Rc) : Option (List Int32) := (rq b 0 k c).2
noncomputable def KY (bs : List Bt) : List (Option (List Int32)) := bs.flatMap (fun b => (rsB b).zipIdx.map (fun z => kyB b z.2 z.1))
theorem KY_aq : ∀ (X : List (Nat × Bt)), (aq X).map (fun a => a.2) = KY (X.map (fun x => x.2))
  | [] => rfl
  | x :: X => by
    have ih := KY_aq X
    have e : aq (x :: X) = bq x.1 x.2 ++ aq X := rfl
    have e2 : KY ((x :: X).map (fun x => x.2)) = (rsB x.2).zipIdx.map (fun z => kyB x.2 z.2 z.1) ++ KY (X.map (fun x => x.2)) := rfl
    rw [e, e2, List.map_append, ih]
    congr 1
    unfold bq
    rw [List.map_map]
    rfl
abbrev ME : Type := Nat × Bm × Nat × Rc
noncomputable def rcs (i : Nat) (x : Bm) : List ME := (rsB (mB x)).zipIdx.map (fun z => (i, x, z.2, z.1))
noncomputable def Rm (l : Nat) (B : List Bm) : List ME := B.zipIdx.flatMap (fun y => if mL y.1 = l then rcs y.2 y.1 else [])
noncomputable def kyE (e : ME) : Option (List Int32) := kyB (mB e.2.1) e.2.2.1 e.2.2.2
theorem Rm_s {l i : Nat} {B : List Bm} {x : Bm} (h : B[i]? = some x) : Rm l (B.take (i + 1)) = Rm l (B.take i) ++ (if mL x = l then rcs i x else []) := by
  unfold Rm
  rw [take_s h, List.zipIdx_append, List.flatMap_append]
  have hi : i < B.length := (List.getElem?_eq_some_iff.mp h).1
  simp [List.length_take, Nat.min_eq_left (Nat.le_of_lt hi)]
theorem Rm_KY {l : Nat} {B : List Bm} : ∀ i, i ≤ B.length → (Rm l (B.take i)).map kyE = KY (mb l (B.take i))
  | 0, _ => by simp [Rm, KY, mb, ofL]
  | i + 1, hi => by
    have ih := Rm_KY (l := l) (B := B) i (by omega)
    obtain ⟨x, hx⟩ := lt_some (show i < B.length by omega)
    have em : mb l (B.take (i + 1)) = mb l (B.take i) ++ (if mL x = l then [mB x] else []) := by
      unfold mb ofL
      rw [take_s hx, List.filter_append, List.map_append]
      by_cases z : mL x = l
      · rw [List.filter_cons_of_pos (by rw [decide_eq_true_eq]; exact z), if_pos z]; rfl
      · rw [List.filter_cons_of_neg (by rw [decide_eq_true_eq]; exact z), if_neg z]; rfl
    rw [Rm_s hx, em, List.map_append, ih]
    have ek : ∀ y, KY (mb l (B.take i) ++ y) = KY (mb l (B.take i)) ++ KY y := fun y => by unfold KY; rw [List.flatMap_append]
    rw [ek]
    congr 1
    by_cases z : mL x = l
    · rw [if_pos z, if_pos z]
      unfold rcs KY
      rw [List.map_map, List.flatMap_cons, List.flatMap_nil, List.append_nil]
      rfl
    · rw [if_neg z, if_neg z]; rfl
