/-! floorMod -/
def fmd (v : Int32) (m : Nat) : Nat := (v.toInt % (m : Int)).toNat
theorem fmd_lt (v : Int32) {m : Nat} (h1 : 1 ≤ m) : fmd v m < m := by
  unfold fmd
  have a := Int.emod_nonneg v.toInt (show (m : Int) ≠ 0 by omega)
  have b := Int.emod_lt_of_pos v.toInt (show (0 : Int) < m by omega)
  omega
theorem fm_neg {v : Int32} {m w : Nat} (h1 : 1 ≤ m) (h2 : m < 2 ^ 31) (hw : v.toInt = -(w : Int)) (hw2 : w ≤ 2 ^ 31) : (v - v / nI m * nI m).toInt = -((w % m : Nat) : Int) := by
  have em : (nI m).toInt = (m : Int) := by unfold nI; exact Int32.toInt_ofNat_of_lt h2
  rw [Int32.toInt_sub, Int32.toInt_mul, Int32.toInt_div, em, hw]
  have hd : (-(w : Int)).tdiv (m : Int) = -((w / m : Nat) : Int) := by
    rw [Int.neg_tdiv, Int.tdiv_eq_ediv_of_nonneg (by omega)]; rfl
  rw [hd]
  have q1 : w / m ≤ w := Nat.div_le_self _ _
  have q2 : w / m * m ≤ w := Nat.div_mul_le_self _ _
  have q3 := Nat.div_add_mod' w m
  have hm : w % m < m := Nat.mod_lt _ (by omega)
  obtain ⟨dd, hdd⟩ : ∃ dd, dd = w / m := ⟨_, rfl⟩
  obtain ⟨rr, hrr⟩ : ∃ rr, rr = w % m := ⟨_, rfl⟩
  rw [← hdd] at q1 q2 q3 ⊢
  rw [← hrr] at q3 hm ⊢
  have b1 : (-(dd : Int)).bmod (2 ^ 32) = -(dd : Int) := Int.bmod_eq_of_le (by omega) (by omega)
  rw [b1]
  obtain ⟨x, hx⟩ : ∃ x, x = dd * m := ⟨_, rfl⟩
  have e : -(dd : Int) * (m : Int) = -(x : Int) := by rw [hx, Int.neg_mul]; simp
  rw [e]
  rw [← hx] at q2 q3
  have b2 : (-(x : Int)).bmod (2 ^ 32) = -(x : Int) := Int.bmod_eq_of_le (by omega) (by omega)
  rw [b2]
  rw [show -(w : Int) - -(x : Int) = -(rr : Int) by omega]
  exact Int.bmod_eq_of_le (by omega) (by omega)
theorem xor_sgn {v : Int32} {m : Nat} (h2 : m < 2 ^ 31) : 0 ≤ (v ^^^ nI m) ↔ 0 ≤ v := by
  have key : ∀ x : Int32, 0 ≤ x ↔ x.toBitVec.msb = false := by
    intro x
    rw [Int32.le_iff_toInt_le, show (0 : Int32).toInt = 0 by decide]
    show 0 ≤ x.toBitVec.toInt ↔ _
    rw [BitVec.msb_eq_toInt]
    simp
  rw [key, key, Int32.toBitVec_xor, BitVec.msb_xor]
  have : (nI m).toBitVec.msb = false := (key _).mp (nI_ge0 h2)
  rw [this]; simp
theorem c_fmod {Y : Ly} {v : Int32} {m : Nat} {M : Mm} {Kn : Int32 → Mm → Prop} (h1 : 1 ≤ m) (h2 : m < 2 ^ 31) (h : Kn (nI (fmd v m)) M) : f_J9_floorMod_7cf53 Y v (nI m) M Kn := by
  unfold f_J9_floorMod_7cf53 f_J9_floorMod_7cf53_18
  refine ⟨fun c => absurd ((nIeq (x := 0) (b := 0) rfl h2 (by decide)).mp c) (by omega), fun x2 e2 => ?_⟩
  rw [xor_sgn h2]
  have em : (nI m).toInt = (m : Int) := by unfold nI; exact Int32.toInt_ofNat_of_lt h2
  refine ⟨fun g => ?_, fun g => ?_⟩
  · obtain ⟨a, ha, rfl⟩ := nI_of (Int32.not_lt.mpr g)
    rw [pk_rem ha (by omega) h2] at e2
    have ea : (nI a).toInt = (a : Int) := by unfold nI; exact Int32.toInt_ofNat_of_lt ha
    have : fmd (nI a) m = a % m := by unfold fmd; rw [ea]; omega
    rw [e2, ← this]; exact h
  · have gl : v.toInt < 0 := by
      have := Int32.not_le.mp g
      have := (Int32.lt_iff_toInt_lt).mp this
      rwa [show (0 : Int32).toInt = 0 by decide] at this
    have lo : -2 ^ 31 ≤ v.toInt := Int32.le_toInt v
    obtain ⟨w, hw⟩ : ∃ w : Nat, v.toInt = -(w : Int) := ⟨(-v.toInt).toNat, by omega⟩
    have e3 := fm_neg h1 h2 hw (by omega)
    rw [← e2] at e3
    have hm : w % m < m := Nat.mod_lt _ (by omega)
    have ef : fmd v m = if w % m = 0 then 0 else m - w % m := by
      unfold fmd
      rw [hw]
      have : (-(w : Int)) % (m : Int) = if w % m = 0 then 0 else (m : Int) - ((w % m : Nat) : Int) := by
        have d := Nat.div_add_mod w m
        by_cases z : w % m = 0
        · rw [if_pos z]
          exact Int.emod_eq_zero_of_dvd (Int.dvd_neg.mpr (Int.natCast_dvd_natCast.mpr (Nat.dvd_of_mod_eq_zero z)))
        · rw [if_neg z]
          have e : (-(w : Int)) = ((m : Int) - ((w % m : Nat) : Int)) + (m : Int) * (-((w / m : Nat) : Int) - 1) := by
            have d' : ((m * (w / m) : Nat) : Int) + ((w % m : Nat) : Int) = (w : Int) := by exact_mod_cast d
            rw [Int.mul_sub, Int.mul_neg, Int.mul_one]
            have : ((m * (w / m) : Nat) : Int) = (m : Int) * ((w / m : Nat) : Int) := by simp
            omega
          rw [e, Int.add_mul_emod_self_left]
          exact Int.emod_eq_of_lt (by omega) (by omega)
      rw [this]
      split <;> omega
    refine ⟨fun z => ?_, fun z => ?_⟩
    · rw [z, show (0 : Int32).toInt = 0 by decide] at e3
      have : fmd v m = 0 := by rw [ef, if_pos (by omega)]
      rw [z]; rw [this] at h; exact h
    · have z' : ¬ w % m = 0 := fun y => z (by rw [← Int32.toInt_inj, e3, y]; decide)
      have : x2 + nI m = nI (fmd v m) := by
        rw [← Int32.toInt_inj, Int32.toInt_add, e3, em, ef, if_neg z']
        have en : (nI (m - w % m)).toInt = ((m - w % m : Nat) : Int) := by unfold nI; exact Int32.toInt_ofNat_of_lt (by omega)
        rw [en, show -((w % m : Nat) : Int) + (m : Int) = ((m - w % m : Nat) : Int) by omega]
        exact Int.bmod_eq_of_le (by omega) (by omega)
      rw [this]; exact h
