/-! staging by the class -/
theorem v32 {x : Int64} (h1 : -1 ≤ x.toInt) (h2 : x.toInt < 2 ^ 30) : x.toInt32 = -1 ↔ x = -1 := by
  constructor
  · intro e
    by_cases z : x.toInt = -1
    · rw [← Int64.toInt_inj, z]; decide
    · exfalso
      have e2 : x = lN x.toInt.toNat := by
        rw [← Int64.toInt_inj]
        have : (lN x.toInt.toNat).toInt = (x.toInt.toNat : Int) := by
          unfold lN
          exact Int64.toInt_ofNat_of_lt (by omega)
        omega
      obtain ⟨w, hw⟩ : ∃ w, w = x.toInt.toNat := ⟨_, rfl⟩
      rw [← hw] at e2
      rw [e2, lN_i] at e
      exact nI_nm1 (by omega) e
  · intro e; rw [e]; decide
def PSt : Nat → Nat → Nat → Prop := fun a b j => a = 0 ∧ ((b = 18 ∧ j = 8) ∨ b = 19 ∨ b = 22)
noncomputable def kgt (Q : KQ) (now : Int32) (p : Nat) (b : Bt) : Int64 := if (kst Q now p b (rsB b).length).2.1 = 0 then gtB b else (kst Q now p b (rsB b).length).2.2
noncomputable def kbt (Q : KQ) (now : Int32) (p : Nat) (b : Bt) : Bt := keB b (nI (kst Q now p b (rsB b).length).2.1) (kgt Q now p b) (kst Q now p b (rsB b).length).1
theorem c_stage {Y : Ly} {q : Nat → Nat → Nat} {nL W nB : Nat} {M : Mm} {m p a : Nat} {b : Bt} {T : Nat → Option (List Int32)} {P : Nat → Nat} {Q : KQ} {now : Int32} {Kn : Int32 → Mm → Prop} (hC : SC Y q nL W nB) (hR : SR q nL (mR M)) (hL : Lie (mI M (q 0 11)) p b) (hp : p + b.length ≤ nB * 1024) (hb : BatOK b) (hm1 : 1 ≤ m) (hm : m ≤ 2 * (nB * 1024 / 7) + 1) (lk : LK m (fun k => fmd (ckv k) m) T P Q) (ht : HT q nB M m T P) (hocc : occ T m < m) (hin : ∀ k c, (rsB b)[k]? = some c → ∀ key, (rq b p k c).2 = some key → lp Q key ≠ none) (h7 : mI M (q 0 18) 7 = nI a) (ha : a + b.length ≤ nB * 1024)
    (h : ∀ M', Ec q PSt M M' → (∀ j, j < a → mI M' (q 0 22) j = mI M (q 0 22) j) → Lie (mI M' (q 0 22)) a (kbt Q now p b) → mI M' (q 0 18) 8 = nI (kst Q now p b (rsB b).length).2.1 → Kn (nI (61 + (kst Q now p b (rsB b).length).1.length)) M') : f_X2_stageKept Y (q 0 18) (nI p) now M Kn := by
  have hd := sdims hC
  have n11 := sn_0_11 hC
  have n22 := sn_0_22 hC
  obtain ⟨la, hla, hlaB, hrec⟩ := Bat_rec hb
  have h61 := hb.1
  have hbl := hb.2.1
  have hnr := hrec.2.2.1
  unfold f_X2_stageKept
  refine ⟨sk_0_18 hC, _, sr_0_18_1 hR, s_countOf (sk_0_11 hC) (by omega) (by omega) ⟨_, sr_0_18_1 hR, s_sizeOf (sk_0_11 hC) (by omega) (by omega) (fun x8 e8 => ⟨_, sr_0_18_1 hR, s_firstTimeOf (sk_0_11 hC) (by omega) (by omega) (fun x12 e12 M13 e13 => ?_)⟩)⟩⟩
  rw [sz_B hL hb, nI_add] at e8
  rw [show nI p + 61 = nI (p + 61) from nI_add _ 61] at e12
  rw [cnt_fB hL h61, hrec.2.1, ft_fB hL h61]
  subst e8 e12
  have E13 : Ec q PSt M M13 := Ec_sI hC e13 ⟨rfl, Or.inl ⟨rfl, rfl⟩⟩
  have j13 : ∀ c, c ≠ 18 → mI M13 (q 0 c) = mI M (q 0 c) := fun c hc => by rw [e13]; exact I_ne hC _ _ (by omega)
  have a13 : mI M13 (q 0 18) 7 = nI a := by rw [e13, mI_sI_self, m1_nat _ _ (by decide)]; exact h7
  refine ⟨q 0 11, by rw [e13]; exact sr_0_18_1 hR, q 0 22, by rw [e13]; exact sr_0_18_6 hR, sk_0_11 hC, sk_0_22 hC, ?_⟩
  rw [a13, nI_clamp (by omega), nI_clamp (by omega), n11, n22]
  refine ⟨⟨nI_pos (by omega), nI_pos (by omega), by decide, by show p + 61 ≤ _; omega, by show a + 61 ≤ _; omega⟩, fun M19 e19 => ?_⟩
  have e19 : M19 = sI M13 (q 0 22) (va_cpy (mI M13 (q 0 11)) (mI M13 (q 0 22)) p a 61) := e19
  have E19 : Ec q PSt M M19 := Ec_trans E13 (Ec_sIr hC e19 (fun j => ⟨rfl, by omega⟩))
  have s19 : mI M19 (q 0 22) = va_cpy (mI M (q 0 11)) (mI M (q 0 22)) p a 61 := by rw [e19, mI_sI_self, j13 11 (by decide), j13 22 (by decide)]
  have H19 : Lie (mI M19 (q 0 22)) a (b.take 61) := by
    refine Lie_move (Lie_take hL 61) (fun j hj => ?_)
    rw [List.length_take] at hj
    rw [s19]; unfold va_cpy
    rw [if_pos (by omega)]; congr 1; omega
  refine LOOP5_inv (fun x20 x21 x22 x23 M24 => ∃ k, k ≤ (rsB b).length ∧ x23 = nI k ∧ x22 = nI (p + rp (rsB b) k) ∧ x21 = nI (61 + (kst Q now p b k).1.length) ∧ x20 = (kst Q now p b k).2.2 ∧ Ec q PSt M M24 ∧ mI M24 (q 0 18) 8 = nI (kst Q now p b k).2.1 ∧ (∀ j, j < a → mI M24 (q 0 22) j = mI M (q 0 22) j) ∧ Lie (mI M24 (q 0 22)) a (b.take 61) ∧ Lie (mI M24 (q 0 22)) (a + 61) (kst Q now p b k).1) (fun _ _ _ x23 _ => (rsB b).length - x23.toNatClampNeg) ?_ _ _ _ _ _ ⟨0, by omega, rfl, rfl, rfl, rfl, E19, ?_, ?_, H19, trivial⟩
  · rintro x20 x21 x22 x23 M24 again ⟨k, hk, rfl, rfl, rfl, rfl, E, c8, lo, hd61, bd⟩ hag
    have hR24 : SR q nL (mR M24) := by rw [E.2]; exact hR
    have d24 : mI M24 (q 0 11) = mI M (q 0 11) := Ec_I E (fun j => by unfold PSt; omega)
    have a24 : mI M24 (q 0 18) 7 = nI a := by rw [(E.1 0 18 7 (by unfold PSt; omega)).1]; exact h7
    obtain ⟨kl1, kl2⟩ := kst_le (Q := Q) (now := now) (p := p) hb k hk
    have rpk := (rp_7 hrec.1 h61 k hk).2
    unfold L_X2_stageKept_70 f_X2_stageKept_191 f_X2_stageKept_223 f_X2_stageKept_176
    refine pk_le (rsB b).length k (fun g => ?_) (fun g => ?_)
    · have ek : k = (rsB b).length := by omega
      subst ek
      refine ⟨_, sr_0_18_6 hR24, ?_⟩
      rw [c8, a24]
      have fin : ∀ gt, gt = kgt Q now p b → f_X0_recount Y (q 0 22) (nI a) (nI (kst Q now p b (rsB b).length).2.1) gt M24 (fun M29 => (∃ b30 : Nat, mR M29 (q 0 18) 6 = some b30 ∧ (f_X0_finish Y b30 (mI M29 (q 0 18) 7) (nI (61 + (kst Q now p b (rsB b).length).1.length)) M29 (fun M31 => (Kn (nI (61 + (kst Q now p b (rsB b).length).1.length)) M31))))) := by
        intro gt hgt
        refine s_recount (sk_0_22 hC) (by omega) (by omega) ⟨q 0 22, sr_0_18_6 hR24, ?_⟩
        rw [I_ne hC _ _ (by decide), a24]
        refine s_finish (sk_0_22 hC) (by omega) (by omega) (by omega) ?_
        simp only [sI_sI, mI_sI_self]
        obtain ⟨k1, k2⟩ := ke_form (cnt := nI (kst Q now p b (rsB b).length).2.1) (gt := gt) h61 (by omega) hd61 bd
        refine h _ (Ec_trans E (Ec_sIr hC (a := 0) (b := 22) rfl (fun j => ⟨rfl, by omega⟩))) (fun j hj => ?_) ?_ (by rw [I_ne hC _ _ (by decide)]; exact c8)
        · rw [mI_sI_self, k2 j (Or.inl hj)]; exact lo j hj
        · rw [mI_sI_self]; unfold kbt; rw [← hgt]; exact k1
      rw [nIeq (x := 0) (b := 0) rfl (by omega) (by decide)]
      refine ⟨fun z => fin _ (by unfold kgt; rw [if_neg z]), fun z => ⟨_, sr_0_18_1 hR24, s_greatestTimeOf (sk_0_11 hC) (by omega) (by omega) (fin _ ?_)⟩⟩
      unfold kgt; rw [if_pos z, d24]; exact gt_fB hL h61
    · refine ⟨_, sr_0_18_2 hR24, _, sr_0_18_1 hR24, sk_0_19 hC, ?_⟩
      obtain ⟨c, hc⟩ : ∃ c, (rsB b)[k]? = some c := ⟨_, List.getElem?_eq_getElem g⟩
      have hL24 : Lie (mI M24 (q 0 11)) p b := by rw [d24]; exact hL
      refine c_rd (sk_0_19 hC) (sk_0_11 hC) (q_ne hC (by decide)) hL24 h61 hrec.1 hc (Nat.le_refl _) (by rw [n11]; exact hp) (by rw [n11]; omega) (fun f g' f2 f3 f4 f5 f6 g0 g1 => ?_)
      refine ⟨fun z => absurd z (by decide), fun _ => ?_⟩
      obtain ⟨M39, e39⟩ : ∃ M39, M39 = vq M24 (q 0 19) f g' := ⟨_, rfl⟩
      rw [← e39]
      have i19 : mI M39 (q 0 19) = f := by rw [e39]; show mI (sI M24 (q 0 19) f) (q 0 19) = f; exact mI_sI_self _ _ _
      have k19 : mJ M39 (q 0 19) = g' := by rw [e39]; show mJ (sJ (sI M24 (q 0 19) f) (q 0 19) g') (q 0 19) = g'; exact mJ_sJ_self _ _ _
      have E39 : Ec q (fun a b _ => a = 0 ∧ b = 19) M24 M39 := by rw [e39]; exact Ec_vq hC (fun j => ⟨rfl, rfl⟩)
      have i39 : ∀ c, c ≠ 19 → mI M39 (q 0 c) = mI M24 (q 0 c) := fun c hc => Ec_I E39 (fun j => by omega)
      have E39' : Ec q PSt M M39 := Ec_trans E (Ec_mono E39 (fun a b j z => ⟨z.1, Or.inr (Or.inl z.2)⟩))
      have ht39 : HT q nB M39 m T P := HT_ec ht E39' (by unfold PSt; omega) (fun j => by unfold PSt; omega) (fun j => by unfold PSt; omega) (fun j => by unfold PSt; omega)
      have hR39 : SR q nL (mR M39) := by rw [E39.2]; exact hR24
      obtain ⟨r1, r2, r3⟩ := rp_at hrec.1 h61 hc
      obtain ⟨q1, q2, q3, q4, q5, q6⟩ := RF_dims r1
      have d39 : mI M39 (q 0 11) = mI M (q 0 11) := by rw [i39 11 (by decide)]; exact d24
      refine c_goes (x := rq b p k c) (c := c) hC hR39 ht39 lk hm1 hm hocc ?_ ?_ (by rw [k19]; exact g0) (fun key hkey => ⟨?_, hin k c hc key hkey⟩) (fun gg => ⟨fun _ => ?_, fun z => absurd z (by decide)⟩) (fun gg => ⟨fun z => absurd rfl z, fun _ => ?_⟩)
      · rw [i19, f3, v32 q3 (by omega)]
        unfold rq
        by_cases z : rK c = -1
        · rw [if_pos z]; exact ⟨fun _ => rfl, fun _ => z⟩
        · rw [if_neg z]; exact ⟨fun y => absurd y z, (fun y => by cases y)⟩
      · rw [i19, f5, v32 q4 (by omega)]
      · rcases rK_cases r1 (by rw [List.length_drop]; omega) with ⟨k1, k2⟩ | ⟨k1, k2, k3⟩
        · unfold rq at hkey; rw [if_pos k1] at hkey; cases hkey
        · unfold rq at hkey ⊢
          rw [if_neg k1] at hkey
          cases hkey
          have kl : ((b.drop (rp (rsB b) k + rKa c)).take (rK c).toInt.toNat).length = (rK c).toInt.toNat := by rw [List.length_take, List.length_drop]; omega
          refine ⟨by rw [i19, f2], by rw [i19, f3, k2, kl], ?_, by rw [kl]; show p + rp (rsB b) k + rKa c + _ ≤ _; omega⟩
          rw [d39]
          show Lie _ (p + rp (rsB b) k + rKa c) _
          rw [Nat.add_assoc]
          exact Lie_take (Lie_drop hL _ (by omega)) _
      · refine ⟨_, sr_0_18_2 hR39, sk_0_19 hC, fun x50 e50 x51 e51 => ?_⟩
        rw [i19, f6] at e50
        rw [nI_1] at e51
        subst e50 e51
        refine hag _ _ _ _ _ ⟨k + 1, by omega, rfl, rfl, by rw [kst_y hc gg], by rw [kst_y hc gg], E39', by rw [kst_y hc gg, i39 18 (by decide)]; exact c8, by rw [i39 22 (by decide)]; exact lo, by rw [i39 22 (by decide)]; exact hd61, by rw [kst_y hc gg, i39 22 (by decide)]; exact bd⟩ (by rw [nI_clamp (by omega), nI_clamp (by omega)]; omega)
      · have e7 : mI M39 (q 0 18) 7 = nI a := by rw [i39 18 (by decide)]; exact a24
        have e8 : mI M39 (q 0 18) 8 = nI (kst Q now p b k).2.1 := by rw [i39 18 (by decide)]; exact c8
        have rs1 := rp_s hc
        have ed : mI M39 (q 0 19) 6 - nI (p + rp (rsB b) k) = nI (rC c) := by rw [i19, f6, pk_sub (by omega)]; congr 1; omega
        refine ⟨_, sr_0_18_1 hR39, _, sr_0_18_6 hR39, _, sr_0_18_2 hR39, sk_0_19 hC, sk_0_11 hC, sk_0_22 hC, ?_⟩
        rw [ed, e7, nI_add, n11, n22, nI_clamp (by omega), nI_clamp (by omega), nI_clamp (by omega)]
        refine ⟨⟨nI_pos (by omega), nI_pos (by omega), nI_pos (by omega), by omega, by omega⟩, fun M60 e60 => ⟨q 0 19, by rw [e60]; exact sr_0_18_2 hR39, sk_0_19 hC, fun x63 e63 => ⟨q 0 19, by rw [e60]; exact sr_0_18_2 hR39, sk_0_19 hC, fun x66 e66 M67 e67 => ?_⟩⟩⟩
        have v60 : mI M60 (q 0 19) = f := by rw [e60, I_ne hC _ _ (by decide)]; exact i19
        have w60 : mJ M60 (q 0 19) = g' := by rw [e60]; exact k19
        have j60 : mI M60 (q 0 18) = mI M39 (q 0 18) := by rw [e60, I_ne hC _ _ (by decide)]
        rw [v60, f6, show nI (p + rp (rsB b) (k + 1)) - nI (p + rp (rsB b) k) = nI (rC c) from by rw [pk_sub (by omega)]; congr 1; omega, nI_add] at e63
        rw [w60, g0] at e66
        rw [j60, e8, nI_1] at e67
        have E67 : Ec q PSt M M67 := Ec_trans E39' (Ec_trans (Ec_sIr hC e60 (fun j => ⟨rfl, by omega⟩)) (Ec_sI hC (j := 8) (v := nI ((kst Q now p b k).2.1 + 1)) (by rw [j60]; exact e67) ⟨rfl, Or.inl ⟨rfl, rfl⟩⟩))
        have s67 : mI M67 (q 0 22) = va_cpy (mI M39 (q 0 11)) (mI M39 (q 0 22)) (p + rp (rsB b) k) (a + (61 + (kst Q now p b k).1.length)) (rC c) := by rw [e67, I_ne hC _ _ (by decide), e60, mI_sI_self]
        have o67 : ∀ j, j < a + (61 + (kst Q now p b k).1.length) → mI M67 (q 0 22) j = mI M24 (q 0 22) j := fun j hj => by rw [s67]; unfold va_cpy; rw [if_neg (by omega), i39 22 (by decide)]
        refine ⟨q 0 19, by rw [E67.2]; exact sr_0_18_2 hR, sk_0_19 hC, fun x50 e50 x51 e51 => ?_⟩
        rw [show mI M67 (q 0 19) = f from by rw [e67, I_ne hC _ _ (by decide)]; exact v60, f6] at e50
        rw [nI_1] at e51
        subst e50 e51 e63 e66
        have kn := kst_n (Q := Q) (now := now) (p := p) hc gg
        have tl : ((b.drop (rp (rsB b) k)).take (rC c)).length = rC c := by rw [List.length_take, List.length_drop]; omega
        refine hag _ _ _ _ _ ⟨k + 1, by omega, rfl, rfl, ?_, by rw [kn], E67, ?_, fun j hj => ?_, ?_, ?_⟩ (by rw [nI_clamp (by omega), nI_clamp (by omega)]; omega)
        · rw [kn]
          show _ = nI (61 + ((kst Q now p b k).1 ++ (b.drop (rp (rsB b) k)).take (rC c)).length)
          rw [List.length_append, tl]; congr 1; omega
        · rw [kn, e67, mI_sI_self]; exact m1_at _ _ _
        · rw [o67 j (by omega)]; exact lo j hj
        · exact Lie_same hd61 (fun j h1 h2 => o67 j (by rw [List.length_take] at h2; omega))
        · rw [kn]
          refine Lie_app.mpr ⟨Lie_same bd (fun j h1 h2 => o67 j (by omega)), ?_⟩
          refine Lie_move (Lie_take (Lie_drop hL (rp (rsB b) k) (by omega)) (rC c)) (fun j hj => ?_)
          rw [tl] at hj
          rw [s67]; unfold va_cpy
          rw [if_pos (by omega), d39]; congr 1; omega
  · rw [e19, I_ne hC _ _ (by decide), e13, mI_sI_self]; exact m1_at _ _ _
  · intro j hj
    rw [s19]; unfold va_cpy
    rw [if_neg (by omega)]
