/-! the kept records of a batch are staged -/
noncomputable def cif {α : Type} (p : Prop) (x y : α) : α := @ite α p (Classical.propDecidable p) x y
theorem cif_y {α : Type} {p : Prop} {x y : α} (h : p) : cif p x y = x := if_pos h
theorem cif_n {α : Type} {p : Prop} {x y : α} (h : ¬ p) : cif p x y = y := if_neg h
noncomputable def kst (Q : KQ) (now : Int32) (p : Nat) (b : Bt) : Nat → List Int32 × Nat × Int64
  | 0 => ([], 0, 0)
  | k + 1 => match (rsB b)[k]? with
    | none => kst Q now p b k
    | some c => cif (gon Q now (ftB b) (rq b p k c) c) (kst Q now p b k) ((kst Q now p b k).1 ++ (b.drop (rp (rsB b) k)).take (rC c), (kst Q now p b k).2.1 + 1, if ftB b + rT c < (kst Q now p b k).2.2 then (kst Q now p b k).2.2 else ftB b + rT c)
theorem kst_y {Q : KQ} {now : Int32} {p k : Nat} {b : Bt} {c : Rc} (hc : (rsB b)[k]? = some c) (h : gon Q now (ftB b) (rq b p k c) c) : kst Q now p b (k + 1) = kst Q now p b k := by
  show (match (rsB b)[k]? with | none => _ | some c => _) = _
  rw [hc]
  exact cif_y h
theorem kst_n {Q : KQ} {now : Int32} {p k : Nat} {b : Bt} {c : Rc} (hc : (rsB b)[k]? = some c) (h : ¬ gon Q now (ftB b) (rq b p k c) c) : kst Q now p b (k + 1) = ((kst Q now p b k).1 ++ (b.drop (rp (rsB b) k)).take (rC c), (kst Q now p b k).2.1 + 1, if ftB b + rT c < (kst Q now p b k).2.2 then (kst Q now p b k).2.2 else ftB b + rT c) := by
  show (match (rsB b)[k]? with | none => _ | some c => _) = _
  rw [hc]
  exact cif_n h
theorem kst_le {Q : KQ} {now : Int32} {p : Nat} {b : Bt} (hb : BatOK b) : ∀ k, k ≤ (rsB b).length → 61 + (kst Q now p b k).1.length ≤ rp (rsB b) k ∧ (kst Q now p b k).2.1 ≤ k
  | 0, _ => ⟨by rw [rp_0]; exact Nat.le_refl _, Nat.le_refl _⟩
  | k + 1, hk => by
    obtain ⟨i1, i2⟩ := kst_le (Q := Q) (now := now) (p := p) hb k (by omega)
    obtain ⟨la, hla, hlaB, hrec⟩ := Bat_rec hb
    obtain ⟨c, hc⟩ : ∃ c, (rsB b)[k]? = some c := ⟨_, List.getElem?_eq_getElem (by omega)⟩
    obtain ⟨r1, r2, r3⟩ := rp_at hrec.1 hb.1 hc
    rw [rp_s hc]
    by_cases z : gon Q now (ftB b) (rq b p k c) c
    · rw [kst_y hc z]; exact ⟨by omega, by omega⟩
    · rw [kst_n hc z]
      refine ⟨?_, by show (kst Q now p b k).2.1 + 1 ≤ _; omega⟩
      show 61 + ((kst Q now p b k).1 ++ (b.drop (rp (rsB b) k)).take (rC c)).length ≤ _
      rw [List.length_append, List.length_take, List.length_drop]; omega
