/-! what the model's compaction leaves -/
def PHp : Nat → Nat → Nat → Prop := fun a b j => a = 20 ∧ ((b = 0 ∧ j = 18) ∨ (20 ≤ b ∧ b ≤ 23) ∨ b = 29 ∨ b = 30 ∨ b = 31)
def bf (x : Bm) : Nat × Bt := (mS x, mB x)
theorem ofL_s (l : Nat) (B : List Bm) (x : Bm) : (ofL l (B ++ [x])).map bf = (ofL l B).map bf ++ (if mL x = l then [bf x] else []) := by
  unfold ofL
  rw [List.filter_append, List.map_append]
  by_cases z : mL x = l
  · rw [List.filter_cons_of_pos (by rw [decide_eq_true_eq]; exact z), if_pos z]; rfl
  · rw [List.filter_cons_of_neg (by rw [decide_eq_true_eq]; exact z), if_neg z]; rfl
theorem ofL_jx (l : Nat) (B : List Bm) (i : Nat) : ((ofL l (B.take i)).map bf).length = jx l B i := by unfold jx mb; rw [List.length_map, List.length_map]
theorem m_putRow {Y : Ly} {q : Nat → Nat → Nat} {nL W nB : Nat} {M : Mm} {i j k a s l : Nat} {b' : Bt} {Kn : Mm → Prop} (hC : SC Y q nL W nB) (hM : SM q (mR M)) (hi : i < 4500) (hj : j < 4500) (hk : k < 60) (h63 : mI M (q 20 63) i = nI a) (h64 : mI M (q 20 64) i = nI b'.length) (h66 : mI M (q 20 66) k = nI s)
    (h : ∀ M', EfH q PB M M' → BRow q M' j (l, s, a, b') → (∀ k y, k ≠ j → BRow q M k y → BRow q M' k y) → mI M' (q 20 0) = mI M (q 20 0) → mJ M' = mJ M → Kn M') :
    ∃ b71 : Nat, mR M (q 20 0) 19 = some b71 ∧ (yK Y b71 = 101 ∧ (vp_in (nI j) (yN Y b71) ∧ (∀ M74 : Mm, M74 = sI M b71 (m1 (mI M b71) (nI j).toNatClampNeg (nI l)) → (∃ b75 : Nat, mR M74 (q 20 0) 20 = some b75 ∧ (∃ b76 : Nat, mR M74 (q 20 0) 62 = some b76 ∧ (yK Y b76 = 101 ∧ (vp_in (nI i) (yN Y b76) ∧ (yK Y b75 = 101 ∧ (vp_in (nI j) (yN Y b75) ∧ (∀ M81 : Mm, M81 = sI M74 b75 (m1 (mI M74 b75) (nI j).toNatClampNeg (mI M74 b76 (nI i).toNatClampNeg)) → (∃ b82 : Nat, mR M81 (q 20 0) 21 = some b82 ∧ (∃ b83 : Nat, mR M81 (q 20 0) 63 = some b83 ∧ (yK Y b83 = 101 ∧ (vp_in (nI i) (yN Y b83) ∧ (yK Y b82 = 101 ∧ (vp_in (nI j) (yN Y b82) ∧ (∀ M88 : Mm, M88 = sI M81 b82 (m1 (mI M81 b82) (nI j).toNatClampNeg (mI M81 b83 (nI i).toNatClampNeg)) → (∃ b89 : Nat, mR M88 (q 20 0) 22 = some b89 ∧ (∃ b90 : Nat, mR M88 (q 20 0) 65 = some b90 ∧ (yK Y b90 = 101 ∧ (vp_in (nI k) (yN Y b90) ∧ (yK Y b89 = 101 ∧ (vp_in (nI j) (yN Y b89) ∧ (∀ M95 : Mm, M95 = sI M88 b89 (m1 (mI M88 b89) (nI j).toNatClampNeg (mI M88 b90 (nI k).toNatClampNeg)) → Kn M95)))))))))))))))))))))))) := by
  have cj : (nI j).toNatClampNeg = j := nI_clamp (by omega)
  have ci : (nI i).toNatClampNeg = i := nI_clamp (by omega)
  have ck : (nI k).toNatClampNeg = k := nI_clamp (by omega)
  have vi : ∀ b, yN Y b = 4500 → vp_in (nI i) (yN Y b) := fun b hb => by rw [hb]; exact vp_in_nI hi (by decide)
  have vj : ∀ b, yN Y b = 4500 → vp_in (nI j) (yN Y b) := fun b hb => by rw [hb]; exact vp_in_nI hj (by decide)
  refine ⟨q 20 20, sm_19 hM, sk_20_20 hC, vj _ (sn_20_20 hC), fun M74 e74 => ⟨q 20 21, by rw [e74]; exact sm_20 hM, q 20 63, by rw [e74]; exact sm_62 hM, sk_20_63 hC, vi _ (sn_20_63 hC), sk_20_21 hC, vj _ (sn_20_21 hC), fun M81 e81 => ⟨q 20 22, by rw [e81, e74]; exact sm_21 hM, q 20 64, by rw [e81, e74]; exact sm_63 hM, sk_20_64 hC, vi _ (sn_20_64 hC), sk_20_22 hC, vj _ (sn_20_22 hC), fun M88 e88 => ⟨q 20 23, by rw [e88, e81, e74]; exact sm_22 hM, q 20 66, by rw [e88, e81, e74]; exact sm_65 hM, sk_20_66 hC, by rw [sn_20_66 hC]; exact vp_in_nI hk (by decide), sk_20_23 hC, vj _ (sn_20_23 hC), fun M95 e95 => ?_⟩⟩⟩⟩
  have b74 : ∀ b, b ≠ 20 → mI M74 (q 20 b) = mI M (q 20 b) := fun b hb => by rw [e74]; exact I_ne hC _ _ (by omega)
  have b81 : ∀ b, b ≠ 21 → mI M81 (q 20 b) = mI M74 (q 20 b) := fun b hb => by rw [e81]; exact I_ne hC _ _ (by omega)
  have b88 : ∀ b, b ≠ 22 → mI M88 (q 20 b) = mI M81 (q 20 b) := fun b hb => by rw [e88]; exact I_ne hC _ _ (by omega)
  have b95 : ∀ b, b ≠ 23 → mI M95 (q 20 b) = mI M88 (q 20 b) := fun b hb => by rw [e95]; exact I_ne hC _ _ (by omega)
  rw [cj] at e74
  rw [cj, ci, b74 63 (by decide), h63] at e81
  rw [cj, ci, b81 64 (by decide), b74 64 (by decide), h64] at e88
  rw [cj, ck, b88 66 (by decide), b81 66 (by decide), b74 66 (by decide), h66] at e95
  have z20 : mI M95 (q 20 20) = m1 (mI M (q 20 20)) j (nI l) := by rw [b95 _ (by decide), b88 _ (by decide), b81 _ (by decide), e74, mI_sI_self]
  have z21 : mI M95 (q 20 21) = m1 (mI M (q 20 21)) j (nI a) := by rw [b95 _ (by decide), b88 _ (by decide), e81, mI_sI_self, b74 _ (by decide)]
  have z22 : mI M95 (q 20 22) = m1 (mI M (q 20 22)) j (nI b'.length) := by rw [b95 _ (by decide), e88, mI_sI_self, b81 _ (by decide), b74 _ (by decide)]
  have z23 : mI M95 (q 20 23) = m1 (mI M (q 20 23)) j (nI s) := by rw [e95, mI_sI_self, b88 _ (by decide), b81 _ (by decide), b74 _ (by decide)]
  refine h M95 (EfH_trans (EfH_sIr hC e74 (fun j => ⟨rfl, by omega, by omega⟩)) (EfH_trans (EfH_sIr hC e81 (fun j => ⟨rfl, by omega, by omega⟩)) (EfH_trans (EfH_sIr hC e88 (fun j => ⟨rfl, by omega, by omega⟩)) (EfH_sIr hC e95 (fun j => ⟨rfl, by omega, by omega⟩))))) ?_ ?_ ?_ ?_
  · unfold BRow; rw [z20, z21, z22, z23, m1_at, m1_at, m1_at, m1_at]; exact ⟨rfl, rfl, rfl, rfl⟩
  · rintro k2 y hk2 ⟨y1, y2, y3, y4⟩
    unfold BRow
    rw [z20, z21, z22, z23, m1_nat _ _ hk2, m1_nat _ _ hk2, m1_nat _ _ hk2, m1_nat _ _ hk2]
    exact ⟨y1, y2, y3, y4⟩
  · rw [b95 _ (by decide), b88 _ (by decide), b81 _ (by decide), b74 _ (by decide)]
  · rw [e95, e88, e81, e74]; rfl
set_option maxRecDepth 20000 in
theorem m_happen {Y : Ly} {q : Nat → Nat → Nat} {nL W nB : Nat} {hp ht : Nat} {S : Nat → List Sg} {B : List Bm} {st en : Nat → Int64} {M : Mm} (hC : SC Y q nL W nB) (hM : SM q (mR M)) (hG : Geo nL W nB S) (hLM : LogM q nL W nB M st en S B hp ht) (hOK : LogOK nL S) {l : Nat} {Sc : List Sg} {so : Sg} {os : List (Option Bt)} {ks : List Nat} {now : Int32} {Kn : Mm → Prop} (hl : l ≤ nL) (hS : S l = Sc ++ [so]) (eos : os = koz (aq (PS (S l))) now (BS (S l)) (PS Sc)) (hnw : NwA q M hp ht l B (S l) now B.length) (hpl : PLA q M ks (pkf W [] os)) (h59 : (pkf W [] os).length ≤ 59) (hI : ∀ n, PkI W (pkf W [] (os.take n)))
    (h : ∀ M' B', EfH q PHp M M' → LogM q nL W nB M' st en (m1 S l (ks.zip (pkf W [] os) ++ [so])) B' hp ht → Kn M') : f_X12_happen Y (q 20 0) (nI l) M Kn := by
  have hd := sdims hC
  have hlk := hLM.2.2.2.2.2.2.2.2
  have hct := Lnk_count hG hlk
  have hSO : ScO (S l) Sc := Or.inl ⟨so, hS⟩
  obtain ⟨hle1, hle2⟩ := ScO_le hSO
  have hosl : os.length = (BS Sc).length := by rw [eos, koz_len, PS_len]
  have hseg := hLM.2.2.2.2.2.2.1 l hl
  have hS60 := (hG.1 l hl).1
  have hgso := (hG.1 l hl).2 so (by rw [hS]; simp)
  have hW : W * 1024 ≤ 16 * 1024 := Nat.mul_le_mul_right _ hd.2.2.2.1
  have hlenS : (S l).length = Sc.length + 1 := by rw [hS, List.length_append, List.length_singleton]
  obtain ⟨p1, p2, p3, p4⟩ := hpl
  have cl : (nI l).toNatClampNeg = l := nI_clamp (by omega)
  have vl9 : vp_in (nI l) (yN Y (q 20 29)) := by rw [sn_20_29 hC]; exact vp_in_nI (by omega) (by decide)
  have v60 : ∀ m b, m < 60 → yN Y b = 540 → vp_in (nI (60 * l + m)) (yN Y b) := fun m b hm hb => by rw [hb]; exact vp_in_nI (by omega) (by decide)
  have hso2 : mI M (q 20 31) (60 * l + Sc.length) = nI (sz so) := (hseg.2 Sc.length so (by rw [hS]; simp)).2
  have hbl2 := hLM.2.2.2.2.2.1.2.2.2.2
  have j0 : jx l B 0 = 0 := by simp [jx, mb, ofL]
  unfold f_X12_happen
  refine ⟨sk_20_0 hC, m_openL hC hM hG hLM hl (fun e => by rw [hS] at e; simp at e) (fun S0 s e => ?_)⟩
  rw [hS] at e
  obtain ⟨e1, e2⟩ := snoc_inj e
  subst e1 e2
  refine ⟨_, sm_30 hM, _, sm_28 hM, sk_20_29 hC, vl9, sk_20_31 hC, ?_⟩
  rw [cl, hseg.1, hlenS, e60, show nI (60 * l + (Sc.length + 1)) - 1 = nI (60 * l + Sc.length) from by rw [← Nat.add_assoc]; exact nI_pred _]
  refine ⟨v60 Sc.length _ (by omega) (sn_20_31 hC), fun x10 e10 => ?_⟩
  rw [nI_clamp (by omega), hso2] at e10
  subst e10
  obtain ⟨Good, eGood⟩ : ∃ Good : Bm → Prop, Good = fun x => mL x ≤ nL ∧ mA x + mN x ≤ ht ∧ Lie (mI M (q 20 hp)) (mA x) (m8 (mB x)) ∧ Bys (mB x) := ⟨_, rfl⟩
  have goodB : ∀ i x, B[i]? = some x → Good x := fun i x hx => by
    rw [eGood]
    have hm := List.mem_of_getElem? hx
    exact ⟨hlk.1 x hm, hbl2 x hm⟩
  have row0 : ∀ j x, B[j]? = some x → BRow q M j x := fun j x hx => by
    obtain ⟨v1, v2, v3, v4, _⟩ := m_at hG hLM hx
    exact ⟨v1, v2, v3, v4⟩
  refine LOOP5_inv (fun x11 x12 x13 x14 M15 => ∃ i B', i ≤ B.length ∧ x14 = nI i ∧ x11 = nI B'.length ∧ B'.length ≤ i ∧ x12 = nI ((pkf W [] (os.take (jx l B i))).length - 1) ∧ x13 = nI (tot (lsg (pkf W [] (os.take (jx l B i))))) ∧ EfH q PB M M15 ∧ mI M15 (q 20 0) = mI M (q 20 0) ∧ mJ M15 = mJ M ∧ (∀ k x, B'[k]? = some x → BRow q M15 k x) ∧ (∀ k x, i ≤ k → B[k]? = some x → BRow q M15 k x) ∧ (∀ x, x ∈ B' → Good x) ∧ (∀ l2, l2 ≠ l → (ofL l2 B').map bf = (ofL l2 (B.take i)).map bf) ∧ (ofL l B').map bf = SB (ks.zip (pkf W [] (os.take (jx l B i)))) ++ ((ofL l (B.take i)).map bf).drop (BS Sc).length) (fun _ _ _ x14 _ => B.length - x14.toNatClampNeg) ?_ _ _ _ _ _ ⟨0, [], by omega, rfl, rfl, by simp, by rw [j0]; rfl, by rw [j0]; rfl, EfH_refl _ _ _, rfl, rfl, (fun k x hk => by simp at hk), fun k x _ hx => row0 k x hx, (fun x hx => by cases hx), fun l2 _ => by simp, by rw [j0]; simp [pkf, SB, ofL]⟩
  rintro x11 x12 x13 x14 M15 again ⟨i, B', hi, rfl, rfl, hBi, rfl, rfl, E15, z15, J15, rowN, rowO, good, oth, own⟩ hag
  have hM15 := Ef_SM E15.1 hM
  unfold L_X12_happen_37
  rw [z15, hLM.2.1, nI_cmp (by omega) (by omega)]
  refine ⟨fun c M17 e17 => ?_, fun c => ?_⟩
  · -- the rows of segments
    have ei : i = B.length := by omega
    subst ei
    rw [List.take_of_length_le (Nat.le_refl _)] at oth own
    have ejx : os.take (jx l B B.length) = os := by rw [jx_all hlk hl]; exact List.take_of_length_le (by omega)
    rw [ejx] at own
    obtain ⟨X, eX⟩ : ∃ X, X = pkf W [] os := ⟨_, rfl⟩
    rw [← eX] at h own p1 p2 p4 h59
    have e17' : M17 = sI M15 (q 20 0) (m1 (mI M15 (q 20 0)) 18 (nI B'.length)) := by rw [e17, z15]
    have E17 : EfH q PHp M M17 := EfH_trans (EfH_mono E15 (fun a b j z => by unfold PB at z; unfold PHp; omega)) (EfH_sI hC e17' ⟨rfl, by omega⟩)
    have o17 : ∀ c, c ≠ 0 → mI M17 (q 20 c) = mI M15 (q 20 c) := fun c hc => by rw [e17]; exact I_ne hC _ _ (by omega)
    have f17 : ∀ c, c ≠ 0 → ¬ (20 ≤ c ∧ c ≤ 23) → mI M17 (q 20 c) = mI M (q 20 c) := fun c hc hn => by rw [o17 c hc, Ef_I E15.1 (fun j => by unfold PB; omega)]
    have z17 : ∀ j, j ≠ 18 → mI M17 (q 20 0) j = mI M (q 20 0) j := fun j hj => by rw [e17', mI_sI_self, m1_nat _ _ hj, z15]
    have J17 : mJ M17 = mJ M := by rw [e17]; exact J15
    have hM17 := Ef_SM E17.1 hM
    refine LOOP2_inv (fun x18 M19 => ∃ s F H, s ≤ X.length ∧ x18 = nI s ∧ M19 = sI (sI M17 (q 20 30) F) (q 20 31) H ∧ (∀ m, m < s → F (60 * l + m) = mI M (q 20 66) m ∧ H (60 * l + m) = mI M (q 20 67) m) ∧ (∀ m, (m < 60 * l ∨ 60 * l + s ≤ m) → F m = mI M (q 20 30) m ∧ H m = mI M (q 20 31) m)) (fun x18 _ => X.length - x18.toNatClampNeg) ?_ _ _ ⟨0, mI M17 (q 20 30), mI M17 (q 20 31), by omega, rfl, by rw [sI_same, sI_same], fun m hm => absurd hm (by omega), fun m _ => by rw [f17 30 (by decide) (by decide), f17 31 (by decide) (by decide)]; exact ⟨rfl, rfl⟩⟩
    rintro x18 M19 again2 ⟨s, F, H, hs, rfl, e19, hFm, hFo⟩ hag2
    have R19 : mR M19 = mR M17 := by rw [e19]; rfl
    have hM19 : SM q (mR M19) := by rw [R19]; exact hM17
    have i19 : ∀ c, c ≠ 30 → c ≠ 31 → mI M19 (q 20 c) = mI M17 (q 20 c) := fun c h1 h2 => by rw [e19, I_ne hC _ _ (by omega), I_ne hC _ _ (by omega)]
    have p19 : mI M19 (q 20 0) 64 = nI X.length := by rw [i19 0 (by decide) (by decide), z17 64 (by decide)]; exact p1
    unfold L_X12_happen_202
    rw [p19, nI_cmp (by omega) (by omega)]
    refine ⟨fun c2 => ?_, fun c2 => ?_⟩
    · have es : s = X.length := by omega
      subst es
      rw [e60]
      refine ⟨_, sm_29 hM19, sk_20_30 hC, v60 X.length _ (by omega) (sn_20_30 hC), fun M24 e24 => ?_⟩
      rw [nI_clamp (by omega)] at e24
      have p24 : mI M24 (q 20 0) 64 = nI X.length := by rw [e24, I_ne hC _ _ (by omega)]; exact p19
      rw [p24, e60]
      refine ⟨q 20 31, by rw [e24]; exact sm_30 hM19, sk_20_31 hC, v60 X.length _ (by omega) (sn_20_31 hC), fun M28 e28 => ?_⟩
      rw [nI_clamp (by omega)] at e28
      have p28 : mI M28 (q 20 0) 64 = nI X.length := by rw [e28, I_ne hC _ _ (by omega)]; exact p24
      rw [p28, nI_1]
      refine ⟨q 20 29, by rw [e28, e24]; exact sm_28 hM19, sk_20_29 hC, vl9, fun M32 e32 => ?_⟩
      rw [cl] at e32
      have E32 : EfH q PHp M M32 := EfH_trans E17 (EfH_trans (EfH_sIr hC (a := 20) (b := 30) (f := F) rfl (fun j => by unfold PHp; omega)) (EfH_trans (EfH_sIr hC e19 (fun j => by unfold PHp; omega)) (EfH_trans (EfH_sIr hC e24 (fun j => by unfold PHp; omega)) (EfH_trans (EfH_sIr hC e28 (fun j => by unfold PHp; omega)) (EfH_sIr hC e32 (fun j => by unfold PHp; omega))))))
      have o32 : ∀ c, c ≠ 29 → c ≠ 30 → c ≠ 31 → mI M32 (q 20 c) = mI M17 (q 20 c) := fun c h1 h2 h3 => by
        rw [e32, I_ne hC _ _ (by omega), e28, I_ne hC _ _ (by omega), e24, I_ne hC _ _ (by omega)]; exact i19 c h2 h3
      have q29 : mI M32 (q 20 29) = m1 (mI M (q 20 29)) l (nI (X.length + 1)) := by
        rw [e32, mI_sI_self, e28, I_ne hC _ _ (by omega), e24, I_ne hC _ _ (by omega), i19 29 (by decide) (by decide), f17 29 (by decide) (by decide)]
      have q30 : mI M32 (q 20 30) = m1 F (60 * l + X.length) (nI so.1) := by
        rw [e32, I_ne hC _ _ (by omega), e28, I_ne hC _ _ (by omega), e24, mI_sI_self, e19, I_ne hC _ _ (by omega), mI_sI_self]
      have q31 : mI M32 (q 20 31) = m1 H (60 * l + X.length) (nI (sz so)) := by
        rw [e32, I_ne hC _ _ (by omega), e28, mI_sI_self, e24, I_ne hC _ _ (by omega), e19, mI_sI_self]
      have J32 : mJ M32 = mJ M := by rw [e32, e28, e24, e19]; exact J17
      have z32 : ∀ j, j ≠ 18 → mI M32 (q 20 0) j = mI M (q 20 0) j := fun j hj => by rw [o32 0 (by decide) (by decide) (by decide)]; exact z17 j hj
      have hp24 : hp = 24 ∨ hp = 25 := hLM.2.2.2.2.1.1
      have hheap : mI M32 (q 20 hp) = mI M (q 20 hp) := by rw [o32 hp (by omega) (by omega) (by omega)]; exact f17 hp (by omega) (by omega)
      have hRow : ∀ k x, B'[k]? = some x → BRow q M32 k x := fun k x hx => by
        have := rowN k x hx
        unfold BRow at this ⊢
        rw [o32 20 (by decide) (by decide) (by decide), o32 21 (by decide) (by decide) (by decide), o32 22 (by decide) (by decide) (by decide), o32 23 (by decide) (by decide) (by decide), o17 20 (by decide), o17 21 (by decide), o17 22 (by decide), o17 23 (by decide)]
        exact this
      have hTl : (ks.zip X).length = X.length := by rw [List.length_zip]; omega
      refine h M32 B' E32 ⟨⟨by rw [z32 1 (by decide)]; exact hLM.1.1, by rw [z32 2 (by decide)]; exact hLM.1.2.1, by rw [z32 3 (by decide)]; exact hLM.1.2.2⟩, ?_, by rw [z32 25 (by decide)]; exact hLM.2.2.1, hLM.2.2.2.1, ⟨hp24, by rw [E32.2.1]; exact hLM.2.2.2.2.1.2.1, by rw [E32.2.2]; exact hLM.2.2.2.2.1.2.2⟩, ⟨Ar_mk (fun k x hx => (hRow k x hx).1), Ar_mk (fun k x hx => (hRow k x hx).2.1), Ar_mk (fun k x hx => (hRow k x hx).2.2.1), Ar_mk (fun k x hx => (hRow k x hx).2.2.2), fun x hx => ?_⟩, ?_, by rw [J32]; exact hLM.2.2.2.2.2.2.2.1, ⟨fun x hx => ?_, fun l2 h2 => ?_⟩⟩
      · rw [o32 0 (by decide) (by decide) (by decide), e17', mI_sI_self, m1_at]
      · have := good x hx
        rw [eGood] at this
        rw [hheap]; exact this.2
      · intro l2 h2
        rw [q29, q30, q31]
        by_cases z : l2 = l
        · subst z
          rw [m1_at, m1_at]
          refine ⟨by rw [List.length_append, List.length_singleton, hTl], fun m t ht => ?_⟩
          rcases snoc_get ht with ⟨em, et⟩ | ⟨hm, ht⟩
          · rw [hTl] at em
            subst em et
            rw [m1_at, m1_at]; exact ⟨rfl, rfl⟩
          · rw [hTl] at hm
            obtain ⟨k, g, w1, w2, w3⟩ := zip_ix p2 hm
            rw [w3] at ht; cases ht
            obtain ⟨u1, u2⟩ := hFm m hm
            rw [m1_nat _ _ (by omega), m1_nat _ _ (by omega), u1, u2]
            exact ⟨Ar_at p3 w1, Ar_map p4 w2⟩
        · rw [m1_nat _ _ z, m1_nat _ _ z]
          have hsg := hLM.2.2.2.2.2.2.1 l2 h2
          refine ⟨hsg.1, fun m t ht => ?_⟩
          have hm := some_lt ht
          have hm60 := (hG.1 l2 h2).1
          obtain ⟨u1, u2⟩ := hFo (60 * l2 + m) (by omega)
          rw [m1_nat _ _ (by omega), m1_nat _ _ (by omega), u1, u2]
          exact hsg.2 m t ht
      · have := good x hx
        rw [eGood] at this
        exact this.1
      · show (ofL l2 B').map bf = SB (m1 S l (ks.zip X ++ [so]) l2)
        by_cases z : l2 = l
        · subst z
          rw [m1_at, own, SB_app]
          congr 1
          have hU : (ofL l2 B).map bf = SB (S l2) := hlk.2 l2 hl
          rw [hU, hS, SB_app, ← SB_len]
          exact List.drop_left
        · rw [m1_nat _ _ z, oth l2 z]
          exact hlk.2 l2 h2
    · obtain ⟨k, g, w1, w2, w3⟩ := zip_ix p2 (show s < X.length by omega)
      rw [e60]
      refine ⟨_, sm_29 hM19, _, sm_65 hM19, sk_20_66 hC, by rw [sn_20_66 hC]; exact vp_in_nI (by omega) (by decide), sk_20_30 hC, v60 s _ (by omega) (sn_20_30 hC), fun M39 e39 => ?_⟩
      rw [nI_clamp (by omega), nI_clamp (by omega), i19 66 (by decide) (by decide), f17 66 (by decide) (by decide)] at e39
      refine ⟨q 20 31, by rw [e39]; exact sm_30 hM19, q 20 67, by rw [e39]; exact sm_66 hM19, sk_20_67 hC, by rw [sn_20_67 hC]; exact vp_in_nI (by omega) (by decide), sk_20_31 hC, v60 s _ (by omega) (sn_20_31 hC), fun M46 e46 x47 e47 => ?_⟩
      rw [nI_clamp (by omega), nI_clamp (by omega)] at e46
      have e39b : mI M39 (q 20 67) = mI M (q 20 67) := by rw [e39, I_ne hC _ _ (by omega), i19 67 (by decide) (by decide)]; exact f17 67 (by decide) (by decide)
      have e39c : mI M39 (q 20 31) = H := by rw [e39, I_ne hC _ _ (by omega), e19, mI_sI_self]
      have e19c : mI M19 (q 20 30) = F := by rw [e19, I_ne hC _ _ (by omega), mI_sI_self]
      rw [e39b, e39c] at e46
      rw [e19c] at e39
      rw [nI_1] at e47
      subst e47
      refine hag2 _ _ ⟨s + 1, m1 F (60 * l + s) (mI M (q 20 66) s), m1 H (60 * l + s) (mI M (q 20 67) s), by omega, rfl, ?_, fun m hm => ?_, fun m hm => ?_⟩ (by rw [nI_clamp (by omega), nI_clamp (by omega)]; omega)
      · rw [e46, e39, e19, sI_comm (sI M17 (q 20 30) F) H (m1 F (60 * l + s) (mI M (q 20 66) s)) (q_ne hC (by omega)), sI_sI, sI_sI]
      · by_cases z : m = s
        · rw [z, m1_at, m1_at]; exact ⟨rfl, rfl⟩
        · rw [m1_nat _ _ (by omega), m1_nat _ _ (by omega)]; exact hFm m (by omega)
      · rw [m1_nat _ _ (by omega), m1_nat _ _ (by omega)]; exact hFo m (by omega)
  · obtain ⟨x, hx⟩ := lt_some (show i < B.length by omega)
    have hrow := rowO i x (Nat.le_refl _) hx
    have hxm := hlk.1 x (List.mem_of_getElem? hx)
    obtain ⟨s', hs', es', hbs'⟩ := Lnk_mem hlk (List.mem_of_getElem? hx)
    have hgs' := (hG.1 _ hxm).2 s' hs'
    have hci := clo_ix hG hl hd.2.2.1 hlk hSO hx
    have vin : ∀ b, yN Y b = 4500 → vp_in (nI i) (yN Y b) := fun b hb => by rw [hb]; exact vp_in_nI (by omega) (by decide)
    have ci : (nI i).toNatClampNeg = i := nI_clamp (by omega)
    have tkS := take_s hx
    have ofS : ∀ l2, (ofL l2 (B.take (i + 1))).map bf = (ofL l2 (B.take i)).map bf ++ (if mL x = l2 then [bf x] else []) := fun l2 => by rw [tkS]; exact ofL_s l2 _ x
    have hjl := ofL_jx l B i
    -- the batch stays where it is
    have stay : ¬ clo (S l) l x → f_X12_happen_72 Y (q 20 0) (nI l) (nI B'.length) (nI ((pkf W [] (os.take (jx l B i))).length - 1)) (nI (tot (lsg (pkf W [] (os.take (jx l B i)))))) (nI i) M15 again := by
      intro hnc
      unfold f_X12_happen_72 f_X12_happen_73 f_X12_happen_187
      refine ⟨fun z => absurd rfl z, fun _ => m_copy hC hM15 (by omega) (by omega) hrow (fun M99 E99 r99 k99 z99 J99 x100 e100 x56 e56 => ?_)⟩
      rw [nI_1] at e100 e56
      subst e100 e56
      have ej : os.take (jx l B (i + 1)) = os.take (jx l B i) := by
        rw [jx_s hx]
        by_cases z : mL x = l
        · rw [if_pos z]
          have : ¬ jx l B i < (BS Sc).length := fun w => hnc (hci.mpr ⟨z, w⟩)
          rw [List.take_of_length_le (by omega), List.take_of_length_le (by omega)]
        · rw [if_neg z, Nat.add_zero]
      refine hag _ _ _ _ _ ⟨i + 1, B' ++ [x], by omega, rfl, by rw [List.length_append, List.length_singleton], by rw [List.length_append, List.length_singleton]; omega, by rw [ej], by rw [ej], EfH_trans E15 E99, by rw [z99, z15], by rw [J99, J15], fun k y hy => ?_, fun k y hk hy => k99 k y (by omega) (rowO k y (by omega) hy), fun y hy => ?_, fun l2 hl2 => ?_, ?_⟩ (by rw [nI_clamp (by omega), nI_clamp (by omega)]; omega)
      · rcases snoc_get hy with ⟨ek, ey⟩ | ⟨hk, hy⟩
        · subst ek ey; exact r99
        · exact k99 k y (by omega) (rowN k y hy)
      · rw [List.mem_append, List.mem_singleton] at hy
        rcases hy with hy | rfl
        · exact good y hy
        · exact goodB i y hx
      · rw [ofL_s, ofS, oth l2 hl2]
      · rw [ofL_s, ofS, own, ej]
        by_cases z : mL x = l
        · rw [if_pos z]
          have : ¬ jx l B i < (BS Sc).length := fun w => hnc (hci.mpr ⟨z, w⟩)
          rw [List.drop_append_of_le_length (by omega), List.append_assoc]
        · rw [if_neg z, List.append_nil, List.append_nil]
    refine ⟨_, sm_19 hM15, sk_20_20 hC, vin _ (sn_20_20 hC), ?_⟩
    rw [ci, hrow.1, nI_eq (by omega) (by omega)]
    refine ⟨fun c2 => stay (fun z => c2 z.1), fun c2 => ⟨_, sm_22 hM15, sk_20_23 hC, vin _ (sn_20_23 hC), ?_⟩⟩
    rw [hrow.2.2.2, nI_eq (by omega) (by omega)]
    refine ⟨fun c3 => stay (fun z => z.2 Sc so hS c3), fun c3 => ?_⟩
    have hclo : clo (S l) l x := ⟨c2, fun S0 s e => by rw [hS] at e; rw [← (snoc_inj e).2]; exact c3⟩
    obtain ⟨-, hj⟩ := hci.mp hclo
    obtain ⟨a, y, w1, w2, w3, w4, w5⟩ := hnw i x (by omega) hx hclo
    obtain ⟨y', hy', ey, hyc⟩ := PS_y (W := W) (nB := nB) hlk hl hSO hx c2
    rw [w1] at hy'
    have hyy : y = y' := Option.some.inj hy'
    subst hyy
    have hoi := koz_at (Q := aq (PS (S l))) (now := now) (xs := BS (S l)) (hyc hj)
    rw [← eos] at hoi
    have jS : jx l B (i + 1) = jx l B i + 1 := by rw [jx_s hx, if_pos c2]
    have hbx : BatOK y.2 := by rw [ey]; exact m_bok hOK hLM hx
    have w2' : mI M15 (q 20 63) i = nI a := by rw [Ef_I E15.1 (fun j => by unfold PB; omega)]; exact w2
    have w3' : mI M15 (q 20 64) i = nI (olen (kop (aq (PS (S l))) now (BS (S l)) y (jx l B i))) := by rw [Ef_I E15.1 (fun j => by unfold PB; omega)]; exact w3
    have dr0 : ((ofL l (B.take (i + 1))).map bf).drop (BS Sc).length = [] := List.drop_eq_nil_of_le (by rw [ofL_jx, jS]; omega)
    have dr1 : ((ofL l (B.take i)).map bf).drop (BS Sc).length = [] := List.drop_eq_nil_of_le (by rw [ofL_jx]; omega)
    rw [dr1, List.append_nil] at own
    unfold f_X12_happen_73
    refine ⟨fun _ => ⟨_, sm_63 hM15, sk_20_64 hC, vin _ (sn_20_64 hC), ?_⟩, fun z => absurd z (by decide)⟩
    rw [ci, w3']
    cases eo : kop (aq (PS (S l))) now (BS (S l)) y (jx l B i) with
    | none =>
      rw [eo] at hoi
      show (nI 0 ≤ 0 → _) ∧ (¬ nI 0 ≤ 0 → _)
      refine ⟨fun _ => ?_, fun z => absurd (by decide) z⟩
      unfold f_X12_happen_187
      intro x56 e56
      rw [nI_1] at e56
      subst e56
      have ej : pkf W [] (os.take (jx l B (i + 1))) = pkf W [] (os.take (jx l B i)) := by rw [jS, pkf_s hoi]; rfl
      refine hag _ _ _ _ _ ⟨i + 1, B', by omega, rfl, rfl, by omega, by rw [ej], by rw [ej], E15, z15, J15, rowN, fun k y hk hy => rowO k y (by omega) hy, good, fun l2 hl2 => ?_, by rw [dr0, List.append_nil, ej]; exact own⟩ (by rw [nI_clamp (by omega), nI_clamp (by omega)]; omega)
      rw [ofS, if_neg (fun z => hl2 (by rw [← z]; exact c2)), List.append_nil]
      exact oth l2 hl2
    | some b' =>
      rw [eo] at hoi w3'
      obtain ⟨eb, hb61, hbl⟩ := kop_len hbx eo
      have h16 := hbx.2.1
      have eb' : b' = kbt (aq (PS (S l))) now y.1 (mB x) := by rw [eb, ey]
      rw [← eb'] at w4 w5
      have hok' := (kbt_ok (Q := aq (PS (S l))) (now := now) (p := y.1) hbx).1
      rw [← eb] at hok'
      show (nI b'.length ≤ 0 → _) ∧ (¬ nI b'.length ≤ 0 → _)
      refine ⟨fun z => absurd z (nI_nle (show 0 < b'.length by omega) (by omega)), fun _ => ?_⟩
      obtain ⟨g, hg1, hg2⟩ := pk_step (W := W) hoi (show 0 < b'.length by omega)
      obtain ⟨k, hk1, hk2⟩ := SB_next (W := W) p2 hoi (show 0 < b'.length by omega)
      have hXn := pkf_tk W [] os (jx l B i)
      have hXn1 := pkf_tk W [] os (jx l B i + 1)
      have hgI : tot g ≤ W * 1024 := by
        have := hI os.length
        rw [List.take_of_length_le (Nat.le_refl _)] at this
        exact (this g (List.mem_of_getElem? hg1)).2
      have lsI : ∀ n, tot (lsg (pkf W [] (os.take n))) ≤ W * 1024 := fun n => by
        rcases snoc_cases (pkf W [] (os.take n)) with e | ⟨X0, g0, e⟩
        · rw [e]; exact Nat.zero_le _
        · rw [e, lsg_s]; exact (hI n g0 (by rw [e]; simp)).2
      have l1 := lsI (jx l B i)
      have l2 := lsI (jx l B i + 1)
      have e67 : mI M15 (q 20 67) ((pkf W [] (os.take (jx l B i))).length - 1) = nI (tot g) := by
        rw [Ef_I E15.1 (fun j => by unfold PB; omega)]; exact Ar_map p4 hg1
      refine ⟨_, sm_66 hM15, sk_20_67 hC, by rw [sn_20_67 hC]; exact vp_in_nI (by omega) (by decide), ?_⟩
      rw [nI_clamp (by omega), e67, nI_eq (by omega) (by omega)]
      have h66 : mI M15 (q 20 66) ((pkf W [] (os.take (jx l B i + 1))).length - 1) = nI k := by
        rw [Ef_I E15.1 (fun j => by unfold PB; omega)]; exact Ar_at p3 hk1
      have fin : ∀ n0 x66 : Nat, n0 = (pkf W [] (os.take (jx l B i + 1))).length - 1 → x66 + b'.length = tot (lsg (pkf W [] (os.take (jx l B i + 1)))) → f_X12_happen_122 Y (q 20 0) (nI l) (nI B'.length) (nI i) M15 again (nI n0) (nI x66) := by
        intro n0 x66 en ex
        rw [← en] at h66
        unfold f_X12_happen_122 f_X12_happen_187
        refine ⟨_, sm_63 hM15, sk_20_64 hC, vin _ (sn_20_64 hC), fun x70 e70 => ?_⟩
        rw [ci, w3'] at e70
        have e70 : x70 = nI x66 + nI b'.length := e70
        rw [nI_add, ex] at e70
        refine m_putRow (b' := b') (a := a) (s := k) hC hM15 (by omega) (by omega) (by omega) w2' w3' h66 (fun M95 E95 r95 k95 z95 J95 x96 e96 x56 e56 => ?_)
        rw [nI_1] at e96 e56
        subst e96 e56 e70
        rw [en]
        refine hag _ _ _ _ _ ⟨i + 1, B' ++ [(l, k, a, b')], by omega, rfl, by rw [List.length_append, List.length_singleton], by rw [List.length_append, List.length_singleton]; omega, by rw [jS], by rw [jS], EfH_trans E15 E95, by rw [z95, z15], by rw [J95, J15], fun k2 y2 hy2 => ?_, fun k2 y2 hk2 hy2 => k95 k2 y2 (by omega) (rowO k2 y2 (by omega) hy2), fun y2 hy2 => ?_, fun l2 hl2 => ?_, ?_⟩ (by rw [nI_clamp (by omega), nI_clamp (by omega)]; omega)
        · rcases snoc_get hy2 with ⟨ek, ey2⟩ | ⟨hk2, hy2⟩
          · subst ek ey2; exact r95
          · exact k95 k2 y2 (by omega) (rowN k2 y2 hy2)
        · rw [List.mem_append, List.mem_singleton] at hy2
          rcases hy2 with hy2 | rfl
          · exact good y2 hy2
          · rw [eGood]
            exact ⟨hl, w5, w4, hok'.2.2.1⟩
        · rw [ofL_s, ofS, oth l2 hl2, if_neg (show ¬ mL x = l2 from fun z => hl2 (by rw [← z]; exact c2)), if_neg (show ¬ mL (l, k, a, b') = l2 from fun z => hl2 (show l = l2 from z).symm)]
        · rw [ofL_s, dr0, List.append_nil, if_pos (show mL (l, k, a, b') = l from rfl), own, jS, hk2]; rfl
      rcases hg2 with ⟨u1, u2, u3⟩ | ⟨u1, u2, u3⟩
      · refine ⟨fun z => absurd u1 z, fun _ x98 e98 => ?_⟩
        rw [nI_1] at e98
        subst e98
        exact fin _ 0 u2 (by omega)
      · exact ⟨fun _ => fin _ _ u2 u3, fun z => absurd z u1⟩
