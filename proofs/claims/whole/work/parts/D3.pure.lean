/-! the slot of a key -/
theorem md_s {a m : Nat} (hm : 1 ≤ m) : (a + 1) % m = if m ≤ a % m + 1 then 0 else a % m + 1 := by
  have h := Nat.mod_lt a (show m > 0 by omega)
  rw [← Nat.mod_add_mod]
  split
  · rename_i g
    rw [show a % m + 1 = m by omega]; exact Nat.mod_self m
  · rename_i g; exact Nat.mod_eq_of_lt (by omega)
theorem c_slotOfKey {Y : Ly} {q : Nat → Nat → Nat} {nL W nB : Nat} {M : Mm} {m p : Nat} {T : Nat → Option (List Int32)} {P : Nat → Nat} {k : List Int32} {Kn : Int32 → Mm → Prop} (hC : SC Y q nL W nB) (hR : SR q nL (mR M)) (hT : HT q nB M m T P) (hm1 : 1 ≤ m) (hm : m ≤ 2 * (nB * 1024 / 7) + 1) (hK : HK q nB M p k) (hocc : ∃ j, j < m ∧ T j = none) (h : ∀ j, j < m → Hit T m k (fmd (ckv k) m) j → Kn (nI j) M) : f_X2_slotOfKey Y (q 0 18) M Kn := by
  have hd := sdims hC
  have n11 := sn_0_11 hC
  obtain ⟨u1, u2, u3, u4⟩ := hK
  unfold f_X2_slotOfKey
  refine ⟨sk_0_18 hC, _, sr_0_18_1 hR, _, sr_0_18_2 hR, sk_0_19 hC, _, sr_0_18_2 hR, sk_0_19 hC, _, sr_0_18_2 hR, sk_0_19 hC, ?_⟩
  rw [u1, u2, nI_add]
  refine s_checksum (sk_0_11 hC) (by omega) (by omega) ?_
  have ec : ckC (mI M (q 0 11)) p k.length ^^^ (-1) = ckv k := by
    unfold ckv
    rw [ckC_congr (g := fB k) (a' := 0) (fun j hj => by rw [Nat.zero_add]; exact Lie_fB u3 j hj)]
  rw [ec, hT.1]
  refine c_fmod hm1 (by omega) ?_
  have hh := fmd_lt (ckv k) hm1
  obtain ⟨hs, ehs⟩ : ∃ hs, hs = fmd (ckv k) m := ⟨_, rfl⟩
  rw [← ehs] at h hh ⊢
  refine LOOP3_inv (fun x13 x14 M15 => ∃ i, i ≤ m ∧ x14 = nI i ∧ x13 = nI ((hs + i) % m) ∧ M15 = M ∧ ∀ i', i' < i → T ((hs + i') % m) ≠ none ∧ T ((hs + i') % m) ≠ some k) (fun _ x14 _ => m - x14.toNatClampNeg) ?_ _ _ _ ⟨0, by omega, rfl, by rw [Nat.add_zero, Nat.mod_eq_of_lt hh], rfl, fun i' hi' => by omega⟩
  rintro x13 x14 M15 again ⟨i, hi, rfl, rfl, rfl, hall⟩ hag
  have hj := md_lt (i := i) hh
  obtain ⟨j, ej⟩ : ∃ j, j = (hs + i) % m := ⟨_, rfl⟩
  unfold L_X2_slotOfKey_39 f_X2_slotOfKey_89 f_X2_slotOfKey_82
  rw [hT.1]
  refine pk_le m i (fun g => ?_) (fun g => ?_)
  · exfalso
    obtain ⟨j0, h0, e0⟩ := hocc
    obtain ⟨i0, hi0, ei0⟩ := md_sur hh h0
    have := (hall i0 (by omega)).1
    rw [ei0] at this
    exact this e0
  · rw [← ej] at hj ⊢
    refine ⟨_, sr_0_18_3 hR, sk_0_20 hC, by rw [sn_0_20 hC]; exact vp_in_nI (by omega) (by omega), ?_⟩
    rw [nI_clamp (by omega)]
    obtain ⟨t1, t2⟩ := hT.2 j hj
    cases et : T j with
    | none =>
      rw [t1 et]
      exact ⟨fun _ => h j hj ⟨i, by omega, ej, Or.inl et, hall⟩, fun c => absurd rfl c⟩
    | some k' =>
      obtain ⟨s1, s2, s3, s4⟩ := t2 k' et
      rw [s1]
      refine ⟨fun c => absurd c (nI_nm1 (by omega)), fun _ => ?_⟩
      refine c_isKeyOf hC hR hT hm ⟨u1, u2, u3, u4⟩ hj et (fun e => ?_) (fun e => ?_)
      · refine ⟨fun _ => h j hj ⟨i, by omega, ej, Or.inr (by rw [et, e]), hall⟩, fun c => absurd c (by decide)⟩
      · refine ⟨fun c => absurd rfl c, fun _ => ?_⟩
        have nxt : (hs + (i + 1)) % m = if m ≤ j + 1 then 0 else j + 1 := by rw [ej, ← md_s hm1]; rfl
        have go : ∀ y x26, y = nI ((hs + (i + 1)) % m) → x26 = nI i + 1 → again y x26 M15 := by
          intro y x26 hy hx
          rw [nI_1] at hx
          subst hx
          refine hag _ _ _ ⟨i + 1, by omega, rfl, hy, rfl, fun i' hi' => ?_⟩ (by rw [nI_clamp (by omega), nI_clamp (by omega)]; omega)
          by_cases z : i' = i
          · rw [z, ← ej, et]
            exact ⟨(fun c => by cases c), fun c => e (by cases c; rfl)⟩
          · exact hall i' (by omega)
        rw [hT.1, nI_1]
        refine pk_le m (j + 1) (fun g2 x26 e26 => go _ _ (by rw [nxt, if_pos g2]; rfl) e26) (fun g2 x26 e26 => go _ _ (by rw [nxt, if_neg (by omega)]) e26)
