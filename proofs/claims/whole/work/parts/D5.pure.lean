/-! the keys of a batch -/
noncomputable def rq (b : Bt) (p k : Nat) (c : Rc) : Nat × Option (List Int32) := (p + rp (rsB b) k + rKa c, if rK c = -1 then none else some ((b.drop (rp (rsB b) k + rKa c)).take (rK c).toInt.toNat))
noncomputable def bq (p : Nat) (b : Bt) : KQ := ((rsB b).zipIdx).map (fun x => rq b p x.2 x.1)
theorem bq_len (p : Nat) (b : Bt) : (bq p b).length = (rsB b).length := by unfold bq; rw [List.length_map, List.length_zipIdx]
theorem bq_s {p k : Nat} {b : Bt} {c : Rc} (h : (rsB b)[k]? = some c) : (bq p b).take (k + 1) = (bq p b).take k ++ [rq b p k c] := by
  have hk := some_lt h
  rw [List.take_succ]
  congr 1
  unfold bq
  rw [List.getElem?_map, List.getElem?_zipIdx, h]
  simp
theorem rK_cases {c : Rc} {bs : List Int32} (h : RF bs c) (hl : bs.length < 2 ^ 30) : (rK c = -1 ∧ (rK c).toInt32 = -1) ∨ (¬ rK c = -1 ∧ (rK c).toInt32 = nI (rK c).toInt.toNat ∧ ¬ (rK c).toInt32 = -1) := by
  obtain ⟨d1, d2, d3, d4, d5, d6⟩ := RF_dims h
  by_cases z : rK c = -1
  · exact Or.inl ⟨z, by rw [z]; decide⟩
  · right
    have hz : ¬ (rK c).toInt = -1 := fun e => z (by rw [← Int64.toInt_inj, e]; decide)
    have e : rK c = lN (rK c).toInt.toNat := by
      rw [← Int64.toInt_inj]
      have : (lN (rK c).toInt.toNat).toInt = ((rK c).toInt.toNat : Int) := by
        unfold lN
        exact Int64.toInt_ofNat_of_lt (by omega)
      omega
    have e2 : (rK c).toInt32 = nI (rK c).toInt.toNat := by
      obtain ⟨w, hw⟩ : ∃ w, w = (rK c).toInt.toNat := ⟨_, rfl⟩
      rw [← hw] at e ⊢
      rw [e, lN_i]
    exact ⟨z, e2, by rw [e2]; exact nI_nm1 (by omega)⟩
def PNk : Nat → Nat → Nat → Prop := fun a b _ => a = 0 ∧ (b = 19 ∨ b = 20 ∨ b = 21)
theorem Ec_vq {Y : Ly} {q : Nat → Nat → Nat} {nL W nB : Nat} {P : Nat → Nat → Nat → Prop} {M : Mm} {a b : Nat} {f : Nat → Int32} {g : Nat → Int64} (hC : SC Y q nL W nB) (h : ∀ j, P a b j) : Ec q P M (vq M (q a b) f g) := by
  refine ⟨fun c d j n => ?_, rfl⟩
  have hn : ¬ (c = a ∧ d = b) := fun z => n (by rw [z.1, z.2]; exact h j)
  constructor
  · show mI (sI M (q a b) f) (q c d) j = _
    rw [I_ne hC _ _ hn]
  · show mJ (sJ (sI M (q a b) f) (q a b) g) (q c d) j = _
    rw [J_ne hC _ _ hn]; rfl
theorem HT_ec {q : Nat → Nat → Nat} {nB m : Nat} {Pp : Nat → Nat → Nat → Prop} {M M' : Mm} {T : Nat → Option (List Int32)} {P : Nat → Nat} (h : HT q nB M m T P) (E : Ec q Pp M M') (p18 : ¬ Pp 0 18 5) (p20 : ∀ j, ¬ Pp 0 20 j) (p21 : ∀ j, ¬ Pp 0 21 j) (p11 : ∀ j, ¬ Pp 0 11 j) : HT q nB M' m T P := by
  unfold HT
  rw [(E.1 _ _ _ p18).1, Ec_I E p20, Ec_I E p21, Ec_I E p11]; exact h
theorem c_noteB {Y : Ly} {q : Nat → Nat → Nat} {nL W nB : Nat} {M : Mm} {m p x : Nat} {b : Bt} {T : Nat → Option (List Int32)} {P : Nat → Nat} {Q : KQ} {again43 : Int32 → Mm → Prop} (hC : SC Y q nL W nB) (hR : SR q nL (mR M)) (hL : Lie (mI M (q 0 11)) p b) (hp : p + b.length ≤ nB * 1024) (hb : BatOK b) (hm1 : 1 ≤ m) (hm : m ≤ 2 * (nB * 1024 / 7) + 1) (hLK : LK m (fun k => fmd (ckv k) m) T P Q) (hT : HT q nB M m T P) (hq : Q.length + (rsB b).length < m)
    (h : ∀ T' P' M', LK m (fun k => fmd (ckv k) m) T' P' (Q ++ bq p b) → HT q nB M' m T' P' → Ec q PNk M M' → again43 (nI x + 1) M') : ∃ n, LOOP3 (L_X2_noteLatestKeys_101 Y (q 0 18) (nI x) again43 (nI (rsB b).length) (nI (p + b.length))) n (nI (p + 61)) 0 M := by
  have hd := sdims hC
  have n11 := sn_0_11 hC
  obtain ⟨la, hla, hlaB, hrec⟩ := Bat_rec hb
  have h61 := hb.1
  have hbl := hb.2.1
  have hnr := hrec.2.2.1
  refine LOOP3_inv (fun x35 x36 M37 => ∃ k T' P', k ≤ (rsB b).length ∧ x36 = nI k ∧ x35 = nI (p + rp (rsB b) k) ∧ Ec q PNk M M37 ∧ LK m (fun k => fmd (ckv k) m) T' P' (Q ++ (bq p b).take k) ∧ HT q nB M37 m T' P') (fun _ x36 _ => (rsB b).length - x36.toNatClampNeg) ?_ _ _ _ ⟨0, T, P, by omega, rfl, by rfl, Ec_refl _ _ _, by rw [List.take_zero, List.append_nil]; exact hLK, hT⟩
  rintro x35 x36 M37 again ⟨k, T', P', hk, rfl, rfl, E, lk, ht⟩ hag
  have hR37 : SR q nL (mR M37) := by rw [E.2]; exact hR
  unfold L_X2_noteLatestKeys_101 f_X2_noteLatestKeys_185
  refine pk_le (rsB b).length k (fun g => ?_) (fun g => ?_)
  · intro x39 e39
    subst e39
    refine h T' P' M37 ?_ ht E
    rw [List.take_of_length_le (by rw [bq_len]; omega)] at lk
    exact lk
  · refine ⟨_, sr_0_18_2 hR37, _, sr_0_18_1 hR37, sk_0_19 hC, ?_⟩
    obtain ⟨c, hc⟩ : ∃ c, (rsB b)[k]? = some c := ⟨_, List.getElem?_eq_getElem g⟩
    have hL37 : Lie (mI M37 (q 0 11)) p b := by rw [Ec_I E (fun j => by unfold PNk; omega)]; exact hL
    refine c_rd (sk_0_19 hC) (sk_0_11 hC) (q_ne hC (by decide)) hL37 h61 hrec.1 hc (Nat.le_refl _) (by rw [n11]; exact hp) (by rw [n11]; omega) (fun f g' f2 f3 f4 f5 f6 g0 g1 => ?_)
    refine ⟨fun z => absurd z (by decide), fun _ => ⟨_, sr_0_18_2 hR37, sk_0_19 hC, ?_⟩⟩
    obtain ⟨M43, e43⟩ : ∃ M43, M43 = vq M37 (q 0 19) f g' := ⟨_, rfl⟩
    rw [← e43]
    have i19 : mI M43 (q 0 19) = f := by rw [e43]; show mI (sI M37 (q 0 19) f) (q 0 19) = f; exact mI_sI_self _ _ _
    have E43 : Ec q (fun a b _ => a = 0 ∧ b = 19) M37 M43 := by rw [e43]; exact Ec_vq hC (fun j => ⟨rfl, rfl⟩)
    have ht43 : HT q nB M43 m T' P' := HT_ec ht E43 (by omega) (fun j => by omega) (fun j => by omega) (fun j => by omega)
    have hR43 : SR q nL (mR M43) := by rw [E43.2]; exact hR37
    have E43' : Ec q PNk M M43 := Ec_trans E (Ec_mono E43 (fun a b j z => ⟨z.1, Or.inl z.2⟩))
    obtain ⟨r1, r2, r3⟩ := rp_at hrec.1 h61 hc
    have hdims := RF_dims r1
    have fin : ∀ T2 P2 M2, mR M2 = mR M43 → mI M2 (q 0 19) = f → Ec q PNk M M2 → HT q nB M2 m T2 P2 → LK m (fun k => fmd (ckv k) m) T2 P2 (Q ++ (bq p b).take k ++ [rq b p k c]) → f_X2_noteLatestKeys_170 Y (q 0 18) (nI k) again M2 := by
      intro T2 P2 M2 hr2 h19 E2 ht2 lk2
      unfold f_X2_noteLatestKeys_170
      refine ⟨_, by rw [hr2]; exact sr_0_18_2 hR43, sk_0_19 hC, fun x52 e52 x53 e53 => ?_⟩
      rw [h19, f6] at e52
      rw [nI_1] at e53
      subst e52 e53
      refine hag _ _ _ ⟨k + 1, T2, P2, by omega, rfl, rfl, E2, ?_, ht2⟩ (by rw [nI_clamp (by omega), nI_clamp (by omega)]; omega)
      rw [bq_s hc, ← List.append_assoc]; exact lk2
    rw [i19, f3]
    rcases rK_cases r1 (by rw [List.length_drop]; omega) with ⟨k1, k2⟩ | ⟨k1, k2, k3⟩
    · refine ⟨fun _ => fin T' P' M43 rfl i19 E43' ht43 ?_, fun z => absurd k2 z⟩
      have := LK_n (p + rp (rsB b) k + rKa c) lk
      have er : rq b p k c = (p + rp (rsB b) k + rKa c, none) := by unfold rq; rw [if_pos k1]
      rw [er]; exact this
    · refine ⟨fun z => absurd z k3, fun _ => ?_⟩
      obtain ⟨n, hn⟩ : ∃ n, n = (rK c).toInt.toNat := ⟨_, rfl⟩
      rw [← hn] at k2 hdims
      have kl : ((b.drop (rp (rsB b) k + rKa c)).take n).length = n := by
        rw [List.length_take, List.length_drop]; omega
      obtain ⟨key, ek⟩ : ∃ key, key = (b.drop (rp (rsB b) k + rKa c)).take n := ⟨_, rfl⟩
      rw [← ek] at kl
      have d43 : mI M43 (q 0 11) = mI M (q 0 11) := Ec_I E43' (fun j => by unfold PNk; omega)
      have hKL : Lie (mI M (q 0 11)) (p + rp (rsB b) k + rKa c) key := by
        rw [ek, Nat.add_assoc]
        exact Lie_take (Lie_drop hL _ (by omega)) n
      have er : rq b p k c = (p + rp (rsB b) k + rKa c, some key) := by unfold rq; rw [if_neg k1, ← hn, ← ek]
      have hK : HK q nB M43 (p + rp (rsB b) k + rKa c) key := ⟨by rw [i19, f2], by rw [i19, f3, k2, kl], by rw [d43]; exact hKL, by rw [kl]; omega⟩
      have ho : occ T' m < m := by
        have := lk.2.2.2
        rw [List.length_append, List.length_take, bq_len] at this
        omega
      refine c_slotOfKey hC hR43 ht43 hm1 hm hK (occ_le ho) (fun j hj hit => ?_)
      have vj20 : vp_in (nI j) (yN Y (q 0 20)) := by rw [sn_0_20 hC]; exact vp_in_nI (by omega) (by omega)
      have vj21 : vp_in (nI j) (yN Y (q 0 21)) := by rw [sn_0_21 hC]; exact vp_in_nI (by omega) (by omega)
      refine ⟨_, sr_0_18_3 hR43, _, sr_0_18_2 hR43, sk_0_19 hC, sk_0_20 hC, vj20, fun M62 e62 => ?_⟩
      rw [nI_clamp (by omega), hK.1] at e62
      refine ⟨q 0 21, by rw [e62]; exact sr_0_18_4 hR43, q 0 19, by rw [e62]; exact sr_0_18_2 hR43, sk_0_19 hC, sk_0_21 hC, vj21, fun M68 e68 => ?_⟩
      have j62 : ∀ c, c ≠ 20 → mI M62 (q 0 c) = mI M43 (q 0 c) := fun c hc => by rw [e62]; exact I_ne hC _ _ (by omega)
      rw [nI_clamp (by omega), j62 19 (by decide), hK.2.1, j62 21 (by decide)] at e68
      have j68 : ∀ c, c ≠ 20 → c ≠ 21 → mI M68 (q 0 c) = mI M43 (q 0 c) := fun c h0 h1 => by rw [e68, I_ne hC _ _ (by omega)]; exact j62 c h0
      have a20 : mI M68 (q 0 20) = m1 (mI M43 (q 0 20)) j (nI (p + rp (rsB b) k + rKa c)) := by rw [e68, I_ne hC _ _ (by decide), e62, mI_sI_self]
      have a21 : mI M68 (q 0 21) = m1 (mI M43 (q 0 21)) j (nI key.length) := by rw [e68, mI_sI_self]
      refine fin (m1 T' j (some key)) (m1 P' j (p + rp (rsB b) k + rKa c)) M68 (by rw [e68]; show mR M62 = _; rw [e62]; rfl) (by rw [j68 19 (by decide) (by decide)]; exact i19) (Ec_trans E43' (Ec_trans (Ec_sIr hC e62 (fun j => ⟨rfl, by omega⟩)) (Ec_sIr hC e68 (fun j => ⟨rfl, by omega⟩)))) ⟨by rw [j68 18 (by decide) (by decide)]; exact ht43.1, fun j' hj' => ?_⟩ (by rw [er]; exact LK_s (fun k => fmd_lt _ hm1) lk hit)
      rw [a20, a21, j68 11 (by decide) (by decide)]
      by_cases z : j' = j
      · subst z
        rw [m1_at, m1_at, m1_at, m1_at]
        refine ⟨(fun c => by cases c), fun k' hk' => ?_⟩
        cases hk'
        exact ⟨rfl, rfl, hK.2.2.1, hK.2.2.2⟩
      · rw [m1_nat _ _ z, m1_nat _ _ z, m1_nat _ _ z, m1_nat _ _ z]
        exact ht43.2 j' hj'
