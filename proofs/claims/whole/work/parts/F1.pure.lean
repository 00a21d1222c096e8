/-! one call of both sides -/
def St (q : Nat → Nat → Nat) (nL W nB n : Nat) (M : Mm) : Prop := ∃ A, CS q nL W nB M A ∧ MS q nL W nB M A ∧ AI nL W nB n A ∧ SR q nL (mR M) ∧ SM q (mR M)
def TTl (Y : Ly) (q17 : Nat) (c : Int32) (ag : Mm → Prop) (r : Int64) (r43 : Int32) (M42 : Mm) : Prop := ((r43 = c → ((¬ c = 0 → (ag M42)) ∧ (c = 0 → (yK Y q17 = 102 ∧ (vp_in 0 (yN Y q17) ∧ (((mJ M42 q17 (0 : Int32).toNatClampNeg) = r → (ag M42)) ∧ (¬ ((mJ M42 q17 (0 : Int32).toNatClampNeg) = r) → (False)))))))) ∧ (¬ (r43 = c) → (False)))
def NX (q : Nat → Nat → Nat) (nL W nB n : Nat) (ag : Mm → Prop) : Prop := ∀ M', St q nL W nB (n + KK) M' → ag M'
theorem SM_R {q : Nat → Nat → Nat} {P : Nat → Nat → Nat → Prop} {M M' : Mm} (E : Ec q P M M') (h : SM q (mR M)) : SM q (mR M') := by rw [E.2]; exact h
theorem SR_R {q : Nat → Nat → Nat} {nL : Nat} {P : Nat → Nat → Nat → Prop} {M M' : Mm} (E : Ec q P M M') (h : SR q nL (mR M)) : SR q nL (mR M') := by rw [E.2]; exact h
theorem MS_9 {Y : Ly} {q : Nat → Nat → Nat} {nL W nB : Nat} {M M' : Mm} {A : AS} (hC : SC Y q nL W nB) (h : MS q nL W nB M A) (E : Ec q Pl9 M M') : MS q nL W nB M' A := MS_out hC h E (fun b j z => by unfold Pl9 at z; omega)
theorem gl {Y : Ly} {q : Nat → Nat → Nat} {nL W nB : Nat} {n : Nat} {X : Op} {o o' : Out} {M1 M2 : Mm} {r : Int64} {ag : Mm → Prop} (hC : SC Y q nL W nB) (hA : Rsl Y q) (det : Det X) (pre : Pre nL W nB n X) (nx : NX q nL W nB n ag) (hX : X o) (hcs : CS q nL W nB M1 o.2.2) (hv : o.1 = 0 → mJ M1 (q 21 0) 0 = o.2.1) (hR1 : SR q nL (mR M1)) (hM1 : SM q (mR M1)) (hX' : X o') (hms : MS q nL W nB M2 o'.2.2) (hF : Ef q Pm20 M1 M2) (hc : mI M2 (q 20 0) 0 = o'.1) (hr : o'.1 = 0 → r = o'.2.1) : f_X12_thrown Y (q 20 0) M2 (fun r43 M42 => TTl Y (q 21 0) o.1 ag r r43 M42) := by
  have e := det o o' hX hX'
  subst e
  have hst : ag M2 := nx M2 ⟨o.2.2, CS_out hC hcs hF (fun a b j ha z => by unfold Pm20 at z; omega), hms, pre o hX, Ef_SR hC hF hR1, Ef_SM hF hM1⟩
  refine ⟨sk_20_0 hC, ?_⟩
  unfold TTl
  rw [hc]
  refine ⟨fun _ => ⟨fun _ => hst, fun z => ⟨hA.1, hA.2, fun _ => hst, fun ne => ne ?_⟩⟩, fun ne => ne rfl⟩
  show mJ M2 (q 21 0) 0 = r
  rw [(hF.1 21 0 0 (by unfold Pm20; omega)).2, hv z, hr z]
/-- the same where nothing is stored -/
theorem gl2 {Y : Ly} {q : Nat → Nat → Nat} {nL W nB : Nat} {n : Nat} {X : Op} {o o' : Out} {M1 M2 : Mm} {r r' : Int32} {ag : Mm → Prop} (hC : SC Y q nL W nB) (det : Det X) (pre : Pre nL W nB n X) (nx : NX q nL W nB n ag) (hX : X o) (hcs : CS q nL W nB M1 o.2.2) (hR1 : SR q nL (mR M1)) (hM1 : SM q (mR M1)) (hr : r.toInt64 = o.2.1) (hX' : X o') (hms : MS q nL W nB M2 o'.2.2) (hF : Ef q Pm20 M1 M2) (hr' : r'.toInt64 = o'.2.1) : (r = r' → ag M2) ∧ (¬ (r = r') → False) := by
  have e := det o o' hX hX'
  subst e
  have hst : ag M2 := nx M2 ⟨o.2.2, CS_out hC hcs hF (fun a b j ha z => by unfold Pm20 at z; omega), hms, pre o hX, Ef_SR hC hF hR1, Ef_SM hF hM1⟩
  exact ⟨fun _ => hst, fun ne => ne (i64_inj (by rw [hr, hr']))⟩
