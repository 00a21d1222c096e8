/-! one record of what was fetched -/
noncomputable def tkR : List (Nat × Bt) → Nat → Option (Nat × Bt × Nat)
  | [], _ => none
  | x :: r, k => if k < (rsB x.2).length then some (x.1, x.2, k) else tkR r (k - (rsB x.2).length)
theorem tkR_mem : ∀ {xs : List (Nat × Bt)} {k p j : Nat} {b : Bt}, tkR xs k = some (p, b, j) → (p, b) ∈ xs ∧ j < (rsB b).length
  | [], _, _, _, _, h => by cases h
  | x :: r, k, p, j, b, h => by
    simp only [tkR] at h
    split at h
    · next g => cases h; exact ⟨List.mem_cons_self, g⟩
    · obtain ⟨h1, h2⟩ := tkR_mem h; exact ⟨List.mem_cons_of_mem _ h1, h2⟩
def F69 : Nat → Nat → Prop := fun a b => a = 0 ∧ (b = 6 ∨ b = 9)
theorem c_readOne {Y : Ly} {q : Nat → Nat → Nat} {nL W nB : Nat} {M : Mm} {Kn : Int32 → Mm → Prop} {b : Bt} {p j : Nat} {c : Rc} {fs : List Bt} (hC : SC Y q nL W nB) (hR : SR q nL (mR M)) (hL : Lie (mI M (q 0 7)) p b) (hp : p + b.length ≤ tot fs) (ht : tot fs ≤ 32768) (hb : BatOK b) (h1 : mI M (q 0 6) 1 = nI (tot fs)) (h4 : mI M (q 0 6) 4 = nI p) (hj : (rsB b)[j]? = some c)
    (h : ∀ M', Fr q (F1 9) M M' → mI M' (q 0 9) 2 = nI (p + rp (rsB b) j + rKa c) → mI M' (q 0 9) 3 = (rK c).toInt32 → mI M' (q 0 9) 4 = nI (p + rp (rsB b) j + rVa c) → mI M' (q 0 9) 5 = (rV c).toInt32 → mJ M' (q 0 9) 0 = rT c → mJ M' (q 0 9) 1 = rO c → Kn 1 M') : f_X6_readOne Y (q 0 6) (nI j) M Kn := by
  obtain ⟨la, hla, hlaB, hrec⟩ := Bat_rec hb
  have h61 := hb.1
  have hlen := hrec.2.2.1
  have hjl := some_lt hj
  have n7 := sn_0_7 hC
  unfold f_X6_readOne
  refine ⟨sk_0_6 hC, _, sr_0_6_5 hR, sk_0_9 hC, fun M4 e4 => ?_⟩
  rw [h4, show nI p + 61 = nI (p + 61) from nI_add p 61] at e4
  have F4 : Fr q (F1 9) M M4 := Fr_e e4 ⟨rfl, rfl⟩
  have z6 : mI M4 (q 0 9) 6 = nI (p + 61) := by rw [e4, mI_sI_self]; simp [m1]
  clear e4
  refine LOOP3_inv (fun x5 x6 M7 => ∃ k, k ≤ j + 1 ∧ x6 = nI k ∧ x5 = 1 ∧ Fr q (F1 9) M M7 ∧ mI M7 (q 0 9) 6 = nI (p + rp (rsB b) k) ∧ (k = j + 1 → Kn 1 M7)) (fun _ x6 _ => j + 1 - x6.toNatClampNeg) ?_ _ _ _ ⟨0, by omega, rfl, rfl, F4, by rw [rp_0]; exact z6, fun e => by omega⟩
  rintro x5 x6 M7 again ⟨k, hk, rfl, rfl, F, e6, hfin⟩ hag
  have hR7 : SR q nL (mR M7) := by rw [F.2]; exact hR
  have i6 : mI M7 (q 0 6) = mI M (q 0 6) := Fr_I hC F (by simp [F1])
  unfold L_X6_readOne_18 f_X6_readOne_56
  rw [nI_ltI (by omega) (by omega)]
  refine ⟨fun g => ⟨bz_1, hfin (by omega)⟩, fun g => ⟨fun z => absurd z (by decide), fun _ => ⟨_, sr_0_6_5 hR7, _, sr_0_6_0 hR7, _, sr_0_6_5 hR7, sk_0_9 hC, sk_0_9 hC, ?_⟩⟩⟩
  obtain ⟨r, hr⟩ := lt_some (show k < (rsB b).length by omega)
  rw [e6, i6, h1]
  refine c_rd (sk_0_9 hC) (sk_0_7 hC) (q_ne hC (by omega)) (by rw [Fr_I hC F (by simp [F1])]; exact hL) h61 hrec.1 hr hp (by omega) (by omega) ?_
  intro f g f2 f3 f4 f5 f6 g0 g1 x17 e17
  rw [nI_1] at e17
  subst e17
  have F' : Fr q (F1 9) M (vq M7 (q 0 9) f g) := Fr_trans F (Fr_vq _ _ _ _ _ ⟨rfl, rfl⟩)
  refine hag _ _ _ ⟨k + 1, by omega, rfl, rfl, F', by rw [vq_v]; exact f6, fun e => ?_⟩ ?_
  · have : k = j := by omega
    subst this
    rw [hr] at hj
    cases hj
    exact h _ F' (by rw [vq_v]; exact f2) (by rw [vq_v]; exact f3) (by rw [vq_v]; exact f4) (by rw [vq_v]; exact f5) (by rw [vq_J]; exact g0) (by rw [vq_J]; exact g1)
  · rw [nI_clamp (by omega), nI_clamp (by omega)]; omega
theorem c_turnTo {Y : Ly} {q : Nat → Nat → Nat} {nL W nB : Nat} {M : Mm} {Kn : Int32 → Mm → Prop} {k : Nat} {fs : List Bt} (hC : SC Y q nL W nB) (hR : SR q nL (mR M)) (hF : FetC q M fs) (hFO : FetOK fs) (hk : k < 2 ^ 31) (hn : tkR (pbs 0 fs) k = none → Kn 0 M)
    (h : ∀ p b j c, tkR (pbs 0 fs) k = some (p, b, j) → (rsB b)[j]? = some c → ∀ M', Fr q F69 M M' → (∀ i, i ≠ 4 → mI M' (q 0 6) i = mI M (q 0 6) i) → mI M' (q 0 6) 4 = nI p → mI M' (q 0 9) 2 = nI (p + rp (rsB b) j + rKa c) → mI M' (q 0 9) 3 = (rK c).toInt32 → mI M' (q 0 9) 4 = nI (p + rp (rsB b) j + rVa c) → mI M' (q 0 9) 5 = (rV c).toInt32 → mJ M' (q 0 9) 0 = rT c → mJ M' (q 0 9) 1 = rO c → Kn 1 M') : f_X6_turnTo Y (q 0 6) (nI k) M Kn := by
  have hl61 := tot_61 hFO.2
  have ht := hFO.1
  have n7 := sn_0_7 hC
  have hpl := pbs_len fs 0
  unfold f_X6_turnTo
  refine LOOP3_inv (fun x1 x2 M3 => ∃ i k', i ≤ fs.length ∧ k' < 2 ^ 31 ∧ x1 = nI k' ∧ x2 = nI i ∧ M3 = M ∧ tkR (pbs 0 fs) k = tkR ((pbs 0 fs).drop i) k') (fun _ x2 _ => fs.length - x2.toNatClampNeg) ?_ _ _ _ ⟨0, k, by omega, hk, rfl, rfl, rfl, rfl⟩
  rintro x1 x2 M3 again ⟨i, k', hi, hk', rfl, rfl, rfl, he⟩ hag
  unfold L_X6_turnTo_4
  refine ⟨sk_0_6 hC, ?_⟩
  rw [hF.2.1, nI_cmp (by omega) (by omega)]
  refine ⟨fun g => ⟨bz_0, hn (by rw [he, List.drop_eq_nil_of_le (by omega)]; rfl)⟩, fun g => ?_⟩
  obtain ⟨x, hx⟩ := lt_some (show i < (pbs 0 fs).length by omega)
  have hm := List.mem_of_getElem? hx
  obtain ⟨hx1, hx2⟩ := pbs_hi hm
  have hb := hFO.2 _ hx2
  obtain ⟨la, hla, hlaB, hrec⟩ := Bat_rec hb
  have hlen := hrec.2.2.1
  have h61 := hb.1
  have hLx := hF.2.2.2 x hm
  have hax : mI M3 (q 0 8) i = nI x.1 := Ar_map hF.2.2.1 hx
  have hin : vp_in (nI i) (yN Y (q 0 8)) := by rw [sn_0_8 hC]; exact vp_in_nI (by omega) (by omega)
  rw [drop_s hx] at he
  simp only [tkR] at he
  refine ⟨_, sr_0_6_0 hR, _, sr_0_6_3 hR, sk_0_8 hC, hin, ?_⟩
  rw [nI_clamp (by omega), hax]
  refine s_countOf (sk_0_7 hC) (by omega) (by omega) ?_
  rw [cnt_fB hLx h61, hrec.2.1, nI_cmp (by omega) (by omega)]
  refine ⟨fun c1 x13 e13 x14 e14 => ?_, fun c1 => ⟨_, sr_0_6_3 hR, sk_0_8 hC, hin, fun M18 e18 => ?_⟩⟩
  · rw [pk_sub c1] at e13
    rw [nI_1] at e14
    subst e13 e14
    refine hag _ _ _ ⟨i + 1, _, by omega, by omega, rfl, rfl, rfl, by rw [he, if_neg (by omega)]⟩ ?_
    rw [nI_clamp (by omega), nI_clamp (by omega)]; omega
  · rw [if_pos (by omega)] at he
    rw [hax] at e18
    obtain ⟨c, hc⟩ := lt_some (show k' < (rsB x.2).length by omega)
    have z6 : mI M18 (q 0 6) = m1 (mI M3 (q 0 6)) 4 (nI x.1) := by rw [e18, mI_sI_self]
    have F18 : Fr q F69 M3 M18 := Fr_e e18 ⟨rfl, by simp⟩
    refine c_readOne (fs := fs) hC (by rw [F18.2]; exact hR) (by rw [Fr_I hC F18 (by simp [F69])]; exact hLx) hx1 ht hb (by rw [z6]; simp [m1, hF.1]) (by rw [z6]; simp [m1]) hc ?_
    intro M' F' g2 g3 g4 g5 g0 g1
    have i6 : mI M' (q 0 6) = mI M18 (q 0 6) := Fr_I hC F' (by simp [F1])
    exact ⟨bz_1, h x.1 x.2 k' c he hc M' (Fr_trans F18 (Fr_mono F' (fun a b hab => ⟨hab.1, Or.inr hab.2⟩))) (fun i hi => by rw [i6, z6]; simp [m1, hi]) (by rw [i6, z6]; simp [m1]) g2 g3 g4 g5 g0 g1⟩
/-- what is told of a record -/
def kyN (x : Int64) : Nat := min x.toInt.toNat 8
def tkV (b : Bt) (r : Nat) (c : Rc) (w : Int32) : Int64 :=
  if w = 0 then baB b + rO c else if w = 1 then ftB b + rT c else if w = 2 then rK c else if w = 3 then beU (fB b) (r + rKa c) (kyN (rK c)) else if w = 4 then rV c else beU (fB b) (r + rVa c) (kyN (rV c))
theorem s_unsL {Y : Ly} {row a n : Nat} {x : Int32} {M : Mm} {Kn : Int64 → Mm → Prop} (hx : (x = -1 ∧ n = 0) ∨ x = nI n) (hk : yK Y row = 100) (hn : a + n ≤ yN Y row) (hb : yN Y row < 2 ^ 31) (h : Kn (beU (mI M row) a n) M) : f_X1_unsigned Y row (nI a) x M Kn := by
  rcases hx with ⟨rfl, rfl⟩ | rfl
  · unfold f_X1_unsigned
    refine ⟨1, ?_⟩
    unfold LOOP2
    unfold L_X1_unsigned_5
    exact ⟨fun _ => h, fun z => absurd (by decide : (-1 : Int32) ≤ 0) z⟩
  · exact s_unsigned hk hn hb h
/-- lengths that a record tells -/
theorem rc_len {b : Bt} {rs : List Rc} {j : Nat} {c : Rc} (hRS : RS (b.drop 61) rs) (h61 : 61 ≤ b.length) (hj : rs[j]? = some c) (hb : b.length ≤ 16384) : (∀ x, x = rK c ∨ x = rV c → (x.toInt32.toInt64 = x ∧ ((x = -1 ∧ x.toInt.toNat = 0) ∨ (x = lN x.toInt.toNat ∧ x.toInt.toNat < 2 ^ 20)) ∧ (if 8 < x.toInt32 then 8 else x.toInt32) = (if x = -1 then -1 else nI (kyN x)))) ∧ rp rs j + rKa c + (rK c).toInt.toNat ≤ b.length ∧ rp rs j + rVa c + (rV c).toInt.toNat ≤ b.length := by
  obtain ⟨h1, h2, h3⟩ := rp_at hRS h61 hj
  obtain ⟨d1, d2, d3, d4, d5, d6⟩ := RF_dims h1
  refine ⟨fun x hx => ?_, by omega, by omega⟩
  have hlo : -1 ≤ x.toInt := by rcases hx with rfl | rfl <;> assumption
  have hhi : x.toInt.toNat < 2 ^ 20 := by rcases hx with rfl | rfl <;> omega
  by_cases e : x = -1
  · subst e
    refine ⟨rfl, Or.inl ⟨rfl, rfl⟩, ?_⟩
    rw [if_pos rfl]; rfl
  · have h0 : 0 ≤ x.toInt := by
      rcases Int.lt_or_le x.toInt 0 with g | g
      · exact absurd (Int64.toInt_inj.mp (show x.toInt = (-1 : Int64).toInt from by show x.toInt = -1; omega)) e
      · exact g
    have ex : x = lN x.toInt.toNat := Int64.toInt_inj.mp (by rw [pk_lT (by omega)]; omega)
    refine ⟨?_, Or.inr ⟨ex, hhi⟩, ?_⟩
    · rw [ex, lN_i, nI_l (by omega)]
    · rw [if_neg e]
      unfold kyN
      generalize x.toInt.toNat = n at ex hhi
      rw [ex, lN_i, show (8 : Int32) = nI 8 from rfl]
      have hlt := nI_ltI (a := 8) (b := n) (by omega) (by omega)
      split
      · next g => rw [hlt] at g; congr 1; omega
      · next g => rw [hlt] at g; congr 1; omega
theorem c_tell {Y : Ly} {q : Nat → Nat → Nat} {nL W nB : Nat} {M : Mm} {Kn : Int64 → Mm → Prop} {b : Bt} {p j : Nat} {c : Rc} {w : Int32} (hC : SC Y q nL W nB) (hR : SR q nL (mR M)) (hL : Lie (mI M (q 0 7)) p b) (hp : p + b.length ≤ 32768) (hb : BatOK b) (h4 : mI M (q 0 6) 4 = nI p) (hj : (rsB b)[j]? = some c) (g2 : mI M (q 0 9) 2 = nI (p + rp (rsB b) j + rKa c)) (g3 : mI M (q 0 9) 3 = (rK c).toInt32) (g4 : mI M (q 0 9) 4 = nI (p + rp (rsB b) j + rVa c)) (g5 : mI M (q 0 9) 5 = (rV c).toInt32) (g0 : mJ M (q 0 9) 0 = rT c) (g1 : mJ M (q 0 9) 1 = rO c) (hw : 0 ≤ w ∧ w ≤ 5) (h : Kn (tkV b (rp (rsB b) j) c w) M) : f_X6_tell Y (q 0 6) w M Kn := by
  obtain ⟨la, hla, hlaB, hrec⟩ := Bat_rec hb
  have h61 := hb.1
  have n7 := sn_0_7 hC
  obtain ⟨hx, hk, hv⟩ := rc_len hrec.1 h61 hj hb.2.1
  have uns : ∀ (x : Int64) (o : Nat), x = rK c ∨ x = rV c → o + x.toInt.toNat ≤ b.length → Kn (beU (fB b) o (kyN x)) M → f_X1_unsigned Y (q 0 7) (nI (p + o)) (if 8 < x.toInt32 then 8 else x.toInt32) M Kn := by
    intro x o hxx ho hK
    obtain ⟨_, h2, h3⟩ := hx x hxx
    rw [h3]
    have hky : kyN x ≤ x.toInt.toNat := Nat.min_le_left _ _
    refine s_unsL (n := kyN x) ?_ (sk_0_7 hC) (by omega) (by omega) ?_
    · by_cases e : x = -1
      · rw [if_pos e]; left; exact ⟨rfl, by rw [e]; rfl⟩
      · rw [if_neg e]; right; rfl
    · rwa [beU_congr (g := fB b) (a' := o) (fun i hi => by rw [Nat.add_assoc]; exact Lie_fB hL _ (by omega))]
  unfold f_X6_tell
  unfold tkV at h
  refine ⟨fun z => ?_, fun z => ?_, fun z => ?_, fun z => ?_, fun z => ?_, fun z => ?_⟩
  · have hw5 : w = 5 := by
      rcases z with z | z
      · exact absurd hw.1 (Int32.not_le.mpr z)
      · exact Int32.le_antisymm hw.2 z
    subst hw5
    refine ⟨sk_0_6 hC, _, sr_0_6_0 hR, _, sr_0_6_5 hR, sk_0_9 hC, _, sr_0_6_5 hR, sk_0_9 hC, ?_⟩
    rw [g4, g5, Nat.add_assoc]
    exact uns (rV c) _ (Or.inr rfl) hv h
  · subst z
    refine ⟨sk_0_6 hC, _, sr_0_6_0 hR, ?_⟩
    rw [h4]
    refine s_baseOf (sk_0_7 hC) (by omega) (by omega) ⟨_, sr_0_6_5 hR, sk_0_9 hC, ?_⟩
    rw [ba_fB hL h61, g1]; exact h
  · subst z
    refine ⟨sk_0_6 hC, _, sr_0_6_0 hR, ?_⟩
    rw [h4]
    refine s_firstTimeOf (sk_0_7 hC) (by omega) (by omega) ⟨_, sr_0_6_5 hR, sk_0_9 hC, ?_⟩
    rw [ft_fB hL h61, g0]; exact h
  · subst z
    refine ⟨sk_0_6 hC, _, sr_0_6_5 hR, sk_0_9 hC, ?_⟩
    rw [g3, (hx _ (Or.inl rfl)).1]; exact h
  · subst z
    refine ⟨sk_0_6 hC, _, sr_0_6_0 hR, _, sr_0_6_5 hR, sk_0_9 hC, _, sr_0_6_5 hR, sk_0_9 hC, ?_⟩
    rw [g2, g3, Nat.add_assoc]
    exact uns (rK c) _ (Or.inl rfl) hk h
  · subst z
    refine ⟨sk_0_6 hC, _, sr_0_6_5 hR, sk_0_9 hC, ?_⟩
    rw [g5, (hx _ (Or.inr rfl)).1]; exact h
