/-! one record of what was fetched, by the model -/
theorem m_fnum {Y : Ly} {q : Nat → Nat → Nat} {nL W nB : Nat} {M : Mm} {p o n : Nat} {b : Bt} {Kn : Int64 → Mm → Prop} (hC : SC Y q nL W nB) (hL : Lie (mI M (q 20 33)) p (m8 b)) (hn : n = 2 ∨ n = 4 ∨ n = 8) (ho : o + n ≤ b.length) (hp : p + b.length ≤ 32768) (h : Kn (beS (fB b) o n) M) : f_X12_number Y (q 20 33) (nI (p + o)) (nI n) M Kn := by
  have n33 := sn_20_33 hC
  refine s_number (sk_20_33 hC) (by omega) (by omega) (by omega) ?_
  rwa [mo_fB hL hn ho]
theorem m_frd {Y : Ly} {q : Nat → Nat → Nat} {nL W nB : Nat} {M : Mm} {p k : Nat} {b : Bt} {c : Rc} {Kn : Int32 → Mm → Prop} (hC : SC Y q nL W nB) (hL : Lie (mI M (q 20 33)) p (m8 b)) (hb : BatOK b) (hp : p + b.length ≤ 32768) (hk : (rsB b)[k]? = some c) (h40 : mR M (q 20 0) 40 = some (q 20 33)) (h41 : mI M (q 20 0) 41 = nI (p + b.length)) (h42 : mI M (q 20 0) 42 = nI (p + rp (rsB b) k))
    (h : ∀ M', Scr q M M' → mR M' (q 20 0) 40 = some (q 20 33) → mI M' (q 20 0) 41 = nI (p + b.length) → mI M' (q 20 0) 42 = nI (p + rp (rsB b) (k + 1)) → mI M' (q 20 0) 49 = nI (p + rp (rsB b) k + rKa c) → mI M' (q 20 0) 51 = nI (p + rp (rsB b) k + rVa c) → mJ M' (q 20 0) 47 = ftB b + rT c → mJ M' (q 20 0) 48 = rO c → mJ M' (q 20 0) 50 = rK c → mJ M' (q 20 0) 52 = rV c → Kn 1 M') : f_X12_readRecord Y (q 20 0) (ftB b) M Kn := by
  obtain ⟨la, hla, hlaB, hrec⟩ := Bat_rec hb
  have h61 := hb.1
  have n33 := sn_20_33 hC
  obtain ⟨h1, h2, h3⟩ := rp_at hrec.1 h61 hk
  have hLd : Lie (mI M (q 20 33)) (p + rp (rsB b) k) (m8 (b.drop (rp (rsB b) k))) := by
    rw [m8_drop]; exact Lie_drop hL _ (by rw [m8_len]; omega)
  refine m_rec hC h40 (by decide) (sk_20_33 hC) hLd (Bys_drop hb.2.2.1 _) (by rw [List.length_drop]; omega) (by omega) (by omega) h41 h42 ?_ (fun hn => absurd (hrec.2.2.2.1 c (List.mem_of_getElem? hk)).1 (hn c h1))
  intro c' hc' hok M' S' w40 w41 w44 w45 w46 w42 w49 w51 w47 w48 w50 w52
  have := RF_fun hc' h1
  subst this
  exact h M' S' w40 w41 (by rw [w42, rp_s hk]; congr 1; omega) w49 w51 w47 w48 w50 w52
theorem sub12 {b : Bt} (h : b_sizeOf (fB b) 0 = nI b.length) (h61 : 61 ≤ b.length) : (beS (fB b) 8 4).toInt32 + 12 = nI b.length := by
  unfold b_sizeOf at h
  rw [Nat.zero_add] at h
  rw [Int32.add_comm]; exact h
theorem m_seek {Y : Ly} {q : Nat → Nat → Nat} {nL W nB : Nat} {M : Mm} {Kn : Int64 → Mm → Prop} {k : Nat} {fs : List Bt} (hC : SC Y q nL W nB) (hM : SM q (mR M)) (hF : FetM q M fs) (hFO : FetOK fs) (hk : k < 2 ^ 31) (hn : tkR (pbs 0 fs) k = none → ∀ M', Scr q M M' → Kn (-1) M')
    (h : ∀ p b j c, tkR (pbs 0 fs) k = some (p, b, j) → (rsB b)[j]? = some c → ∀ M', Scr q M M' → mI M' (q 20 0) 49 = nI (p + rp (rsB b) j + rKa c) → mI M' (q 20 0) 51 = nI (p + rp (rsB b) j + rVa c) → mJ M' (q 20 0) 47 = ftB b + rT c → mJ M' (q 20 0) 48 = rO c → mJ M' (q 20 0) 50 = rK c → mJ M' (q 20 0) 52 = rV c → Kn (baB b) M') : f_X12_seek Y (q 20 0) (nI k) M Kn := by
  have hl61 := tot_61 hFO.2
  have ht := hFO.1
  have n33 := sn_20_33 hC
  have hpl := pbs_len fs 0
  unfold f_X12_seek
  have hx1 : ∀ i x, (pbs 0 fs)[i]? = some x → x.1 = tot (fs.take i) := by
    intro i x hx
    have e : fs = fs.take i ++ fs.drop i := (List.take_append_drop i fs).symm
    rw [e, pbs_app, Nat.zero_add] at hx
    have hil := some_lt hx
    rw [List.length_append, pbs_len, pbs_len, List.length_take, List.length_drop] at hil
    rw [List.getElem?_append_right (by rw [pbs_len, List.length_take]; omega), pbs_len, List.length_take, show i - min i fs.length = 0 by omega] at hx
    cases hd : fs.drop i with
    | nil => rw [hd] at hx; cases hx
    | cons b bs => rw [hd] at hx; simp only [pbs, List.getElem?_cons_zero, Option.some.injEq] at hx; rw [← hx]; rfl
  refine LOOP3_inv (fun x1 x2 M3 => ∃ i k', i ≤ fs.length ∧ k' < 2 ^ 31 ∧ x2 = nI k' ∧ x1 = nI (tot (fs.take i)) ∧ M3 = M ∧ tkR (pbs 0 fs) k = tkR ((pbs 0 fs).drop i) k') (fun x1 _ _ => tot fs - x1.toNatClampNeg) ?_ _ _ _ ⟨0, k, by omega, hk, rfl, rfl, rfl, rfl⟩
  rintro x1 x2 M3 again ⟨i, k', hi, hk', rfl, rfl, rfl, he⟩ hag
  unfold L_X12_seek_4 f_X12_seek_129
  have htt : tot (fs.take i) + tot (fs.drop i) = tot fs := by
    unfold tot
    rw [← List.sum_append, ← List.map_append, List.take_append_drop]
  refine ⟨sk_20_0 hC, ?_⟩
  rw [hF.1, nI_cmp (by omega) (by omega)]
  have hdrop : tot (fs.drop i) = 0 → fs.length ≤ i := by
    intro e
    have := (tot_0 (fs := fs.drop i) (fun b hb => hFO.2 b (List.mem_of_mem_drop hb))).mp e
    have := congrArg List.length this
    rw [List.length_drop] at this
    simp at this; omega
  refine ⟨fun g => hn (by rw [he, List.drop_eq_nil_of_le (by have := hdrop (by omega); omega)]; rfl) M3 (Scr_refl _ _), fun g => ⟨fun z => absurd z (nI_pos hk), fun _ => ?_⟩⟩
  have hil : i < fs.length := by
    rcases Nat.lt_or_ge i fs.length with z | z
    · exact z
    · rw [List.drop_eq_nil_of_le z] at htt
      have : tot ([] : List Bt) = 0 := rfl
      omega
  obtain ⟨x, hx⟩ := lt_some (show i < (pbs 0 fs).length by omega)
  have hm := List.mem_of_getElem? hx
  obtain ⟨hxa, hxb⟩ := pbs_hi hm
  have hb := hFO.2 _ hxb
  obtain ⟨la, hla, hlaB, hrec⟩ := Bat_rec hb
  have hlen := hrec.2.2.1
  have h61 := hb.1
  have hLx := hF.2 x hm
  have hfx : fs[i]? = some x.2 := by
    have := congrArg (fun o => Option.map (fun p : Nat × Bt => p.2) o) hx
    rw [← List.getElem?_map, pbs_snd] at this
    exact this
  have hts : tot (fs.take (i + 1)) = x.1 + x.2.length := by rw [take_s hfx, tot_s, hx1 i x hx]
  have hxe := hx1 i x hx
  rw [← hxe]
  rw [drop_s hx] at he
  simp only [tkR] at he
  refine ⟨_, sm_32 hM, ?_⟩
  rw [show nI x.1 + 8 = nI (x.1 + 8) from nI_add _ 8]
  refine m_fnum (n := 4) hC hLx (by simp) (by omega) (by omega) (fun x10 e10 => ⟨_, sm_32 hM, ?_⟩)
  rw [sub12 hb.2.2.2.1 h61] at e10
  subst e10
  rw [show nI x.1 + 57 = nI (x.1 + 57) from nI_add _ 57]
  refine m_fnum (n := 4) hC hLx (by simp) (by omega) (by omega) (fun x14 e14 => ?_)
  have e14' : x14 = nI (rsB x.2).length := by
    rw [e14, ← hrec.2.1]; unfold cntB b_countOf; rw [Nat.zero_add]
  clear e14
  subst e14'
  rw [nI_cmp (by omega) (by omega)]
  refine ⟨fun c1 x16 e16 x17 e17 => ?_, fun c1 => ⟨_, sm_32 hM, ?_⟩⟩
  · rw [pk_sub c1] at e16
    rw [nI_add] at e17
    subst e16 e17
    refine hag _ _ _ ⟨i + 1, _, by omega, by omega, rfl, by rw [hts], rfl, by rw [he, if_neg (by omega)]⟩ ?_
    rw [nI_clamp (by omega), nI_clamp (by omega)]; omega
  · rw [if_pos (by omega)] at he
    obtain ⟨c, hc⟩ := lt_some (show k' < (rsB x.2).length by omega)
    rw [show nI x.1 + 61 = nI (x.1 + 61) from nI_add _ 61, nI_add]
    refine m_reads (b := 33) hC (fun M1 S1 r40 r42 r41 _ _ => ?_)
    refine LOOP2_inv (fun x20 M21 => ∃ j, j ≤ k' + 1 ∧ x20 = nI j ∧ Scr q M3 M21 ∧ mR M21 (q 20 0) 40 = some (q 20 33) ∧ mI M21 (q 20 0) 41 = nI (x.1 + x.2.length) ∧ mI M21 (q 20 0) 42 = nI (x.1 + rp (rsB x.2) j) ∧ (j = k' + 1 → Kn (baB x.2) M21)) (fun x20 _ => k' + 1 - x20.toNatClampNeg) ?_ _ _ ⟨0, by omega, rfl, S1, r40, r41, by rw [rp_0]; exact r42, fun e => by omega⟩
    rintro x20 M21 again2 ⟨j, hj, rfl, S21, s40, s41, s42, hfin⟩ hag2
    have hL21 : Lie (mI M21 (q 20 33)) x.1 (m8 x.2) := by rw [Scr_I hC S21 (by omega)]; exact hLx
    have hM21 := Scr_SM S21 hM
    unfold L_X12_seek_74
    rw [nI_ltI (by omega) (by omega)]
    refine ⟨fun g2 => ⟨_, sm_32 hM21, ?_⟩, fun g2 => ⟨_, sm_32 hM21, ?_⟩⟩
    · have := m_fnum (o := 0) (n := 8) hC hL21 (by simp) (by omega) (by omega) (hfin (by omega))
      rwa [Nat.add_zero] at this
    · rw [show nI x.1 + 27 = nI (x.1 + 27) from nI_add _ 27]
      refine m_fnum (n := 8) hC hL21 (by simp) (by omega) (by omega) ?_
      obtain ⟨r, hr⟩ := lt_some (show j < (rsB x.2).length by omega)
      refine m_frd hC hL21 hb (by omega) hr s40 s41 s42 ?_
      intro M' S' t40 t41 t42 t49 t51 t47 t48 t50 t52 x31 e31
      rw [nI_1] at e31
      subst e31
      refine hag2 _ _ ⟨j + 1, by omega, rfl, Scr_trans S21 S', t40, t41, t42, fun e => ?_⟩ ?_
      · have : j = k' := by omega
        subst this
        rw [hr] at hc
        cases hc
        exact h x.1 x.2 j _ he hr M' (Scr_trans S21 S') t49 t51 t47 t48 t50 t52
      · rw [nI_clamp (by omega), nI_clamp (by omega)]; omega
theorem moN_beU {f g : Nat → Int32} {a a' n : Nat} (h : ∀ j, j < n → g (a' + j) = f (a + j) &&& 255) : moN g a' 0 n = beU f a n := by
  rw [← Int64.toBitVec_inj, moN_bU 0 n h, beU_bU]; rfl
/-- the model's answer for a record -/
theorem m_tell {Y : Ly} {q : Nat → Nat → Nat} {nL W nB : Nat} {M : Mm} {Kn : Int64 → Mm → Prop} {b : Bt} {p j : Nat} {c : Rc} {w : Int32} (hC : SC Y q nL W nB) (hM : SM q (mR M)) (hL : Lie (mI M (q 20 33)) p (m8 b)) (hp : p + b.length ≤ 32768) (hb : BatOK b) (hj : (rsB b)[j]? = some c) (t49 : mI M (q 20 0) 49 = nI (p + rp (rsB b) j + rKa c)) (t51 : mI M (q 20 0) 51 = nI (p + rp (rsB b) j + rVa c)) (t47 : mJ M (q 20 0) 47 = ftB b + rT c) (t48 : mJ M (q 20 0) 48 = rO c) (t50 : mJ M (q 20 0) 50 = rK c) (t52 : mJ M (q 20 0) 52 = rV c) (hw : 0 ≤ w ∧ w ≤ 5) (h : Kn (tkV b (rp (rsB b) j) c w) (sI M (q 20 0) (m1 (mI M (q 20 0)) 0 0))) : f_X12_taken_20 Y (q 20 0) w Kn (baB b) M := by
  obtain ⟨la, hla, hlaB, hrec⟩ := Bat_rec hb
  have h61 := hb.1
  have n33 := sn_20_33 hC
  obtain ⟨hx, hk, hv⟩ := rc_len hrec.1 h61 hj hb.2.1
  obtain ⟨a, ha, ea⟩ := hb.2.2.2.2.2.1
  unfold f_X12_taken_20 f_X12_taken_33
  have h0 : 0 ≤ baB b := by rw [ea, show (0 : Int64) = lN 0 from rfl, pk_lLE (by omega) (by omega)]; omega
  refine ⟨fun _ => ⟨sk_20_0 hC, fun M5 e5 => ?_⟩, fun z => absurd h0 z⟩
  have z0 : mI M5 (q 20 0) = m1 (mI M (q 20 0)) 0 0 := by rw [e5, mI_sI_self]
  have zF : mI M5 (q 20 33) = mI M (q 20 33) := by rw [e5]; exact I_ne hC _ _ (by omega)
  have zJ : mJ M5 = mJ M := by rw [e5]; rfl
  have hM5 : SM q (mR M5) := by rw [e5]; exact hM
  rw [← e5] at h
  clear e5
  have y0 : mI M5 (q 20 0) 0 = 0 := by rw [z0]; simp [m1]
  have y49 : mI M5 (q 20 0) 49 = nI (p + rp (rsB b) j + rKa c) := by rw [z0]; simp [m1, t49]
  have y51 : mI M5 (q 20 0) 51 = nI (p + rp (rsB b) j + rVa c) := by rw [z0]; simp [m1, t51]
  rw [y0]
  refine ⟨fun _ => ?_, fun z => absurd (by decide : (0 : Int32) ≤ 0) z⟩
  have bg : ∀ (x : Int64) (o : Nat), x = rK c ∨ x = rV c → o + x.toInt.toNat ≤ b.length → Kn (beU (fB b) o (kyN x)) M5 → f_X12_begin Y (q 20 33) (nI (p + o)) x M5 Kn := by
    intro x o hxx ho hK
    obtain ⟨_, h2, h3⟩ := hx x hxx
    refine m_begin (n := x.toInt.toNat) (sk_20_33 hC) ?_ (by omega) (by omega) ?_
    · rcases h2 with h2 | h2
      · exact Or.inr h2
      · exact Or.inl ⟨h2.1, by omega⟩
    · rw [moN_beU (f := fB b) (a := o) (fun i hi => by rw [zF, Nat.add_assoc]; exact m8_fB hL (by omega))]
      exact hK
  unfold tkV at h
  refine ⟨fun z => ?_, fun z => ?_, fun z => ?_, fun z => ?_, fun z => ?_, fun z => ?_⟩
  · have hw5 : w = 5 := by
      rcases z with z | z
      · exact absurd hw.1 (Int32.not_le.mpr z)
      · exact Int32.le_antisymm hw.2 z
    subst hw5
    refine ⟨_, sm_32 hM5, ?_⟩
    rw [y51, zJ, t52, Nat.add_assoc]
    exact bg _ _ (Or.inr rfl) hv h
  · subst z; rw [zJ, t48]; exact h
  · subst z; rw [zJ, t47]; exact h
  · subst z; rw [zJ, t50]; exact h
  · subst z
    refine ⟨_, sm_32 hM5, ?_⟩
    rw [y49, zJ, t50, Nat.add_assoc]
    exact bg _ _ (Or.inl rfl) hk h
  · subst z; rw [zJ, t52]; exact h
