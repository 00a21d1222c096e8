/-! the model's scans -/
theorem m_ol {Y : Ly} {q : Nat → Nat → Nat} {nL W nB : Nat} {hp ht : Nat} {S : Nat → List Sg} {B : List Bm} {st en : Nat → Int64} {M : Mm} (hC : SC Y q nL W nB) (hM : SM q (mR M)) (hG : Geo nL W nB S) (hLM : LogM q nL W nB M st en S B hp ht) {i l : Nat} {x : Bm} (hx : B[i]? = some x) (hl : l ≤ nL) : vp_in (nI i) (yN Y (q 20 20)) ∧ (mI M (q 20 20) (nI i).toNatClampNeg = nI l ↔ mL x = l) := by
  have hd := sdims hC
  have hct := Lnk_count hG hLM.2.2.2.2.2.2.2.2
  have hi := some_lt hx
  obtain ⟨v1, v2, v3, v4, v5, v6, v7, v8, v9⟩ := m_at hG hLM hx
  refine ⟨by rw [sn_20_20 hC]; exact vp_in_nI (by omega) (by decide), ?_⟩
  rw [nI_clamp (by omega), v1, nI_eq (by omega) (by omega)]
theorem m_findL {Y : Ly} {q : Nat → Nat → Nat} {nL W nB : Nat} {hp ht : Nat} {S : Nat → List Sg} {B : List Bm} {st en : Nat → Int64} {M : Mm} (hC : SC Y q nL W nB) (hM : SM q (mR M)) (hG : Geo nL W nB S) (hLM : LogM q nL W nB M st en S B hp ht) (hOK : LogOK nL S) {l : Nat} {t : Int64} {Kn : Int64 → Mm → Prop} (hl : l ≤ nL) (h : ∀ M', Scr q M M' → Kn (fiB t (BS (S l))) M') : ∃ n, LOOP2 (L_X12_find_29 Y (q 20 0) (nI l) t Kn) n 0 M := by
  have hd := sdims hC
  have hct := Lnk_count hG hLM.2.2.2.2.2.2.2.2
  rw [← mb_BS hLM.2.2.2.2.2.2.2.2 hl] at h
  refine LOOP2_inv (fun x6 M7 => ∃ i, i ≤ B.length ∧ x6 = nI i ∧ fiB t (mb l B) = fiB t (mb l (B.drop i)) ∧ Scr q M M7) (fun x6 _ => B.length - x6.toNatClampNeg) ?_ _ _ ⟨0, by omega, rfl, rfl, Scr_refl _ _⟩
  rintro x6 M7 again ⟨i, hi, rfl, he, S7⟩ hag
  have hLM2 := Scr_LogM hC S7 hLM
  have hM2 := Scr_SM S7 hM
  unfold L_X12_find_29
  rw [hLM2.2.1, nI_cmp (by omega) (by omega)]
  refine ⟨fun c => ?_, fun c => ?_⟩
  · have := h M7 S7
    rwa [he, mb_end c] at this
  obtain ⟨x, hx⟩ := lt_some (show i < B.length by omega)
  obtain ⟨hin, hol⟩ := m_ol hC hM2 hG hLM2 hx hl
  have nxt : ∀ M12, fiB t (mb l (B.drop i)) = fiB t (mb l (B.drop (i + 1))) → Scr q M M12 → f_X12_find_108 Y (nI i) again M12 := by
    intro M12 e S12 x13 e13
    rw [nI_1] at e13
    subst e13
    refine hag _ _ ⟨i + 1, by omega, rfl, by rw [he, e], S12⟩ ?_
    rw [nI_clamp (by omega), nI_clamp (by omega)]; omega
  refine ⟨_, sm_19 hM2, sk_20_20 hC, hin, ?_⟩
  rw [hol]
  refine ⟨fun c2 => nxt M7 (by rw [mb_out hx c2]) S7, fun c2 => m_readsB hC hM2 hG hLM2 hx ?_⟩
  intro M1 S1 r40 r42 r41
  have hb := m_bok hOK hLM2 hx
  obtain ⟨la, hla, hlaB, hrec⟩ := Bat_rec hb
  have hlen := hrec.2.2.1
  refine LOOP2_inv (fun x9 M10 => ∃ k, k ≤ (rsB (mB x)).length ∧ x9 = nI k ∧ (∀ j c, j < k → (rsB (mB x))[j]? = some c → decide (t ≤ ftB (mB x) + rT c) = false) ∧ Scr q M7 M10 ∧ mR M10 (q 20 0) 40 = some (q 20 hp) ∧ mI M10 (q 20 0) 41 = nI (mA x + mN x) ∧ mI M10 (q 20 0) 42 = nI (mA x + rp (rsB (mB x)) k)) (fun x9 _ => (rsB (mB x)).length - x9.toNatClampNeg) ?_ _ _ ⟨0, by omega, rfl, fun j c hj => by omega, S1, r40, r41, by rw [rp_0]; exact r42⟩
  rintro x9 M10 again2 ⟨k, hk, rfl, hlow, S10, s40, s41, s42⟩ hag2
  have hLM3 := Scr_LogM hC S10 hLM2
  have hM3 := Scr_SM S10 hM2
  unfold L_X12_find_58
  refine m_ct hC hM3 hG hLM3 hx ?_
  rw [hrec.2.1, nI_cmp (by omega) (by omega)]
  refine ⟨fun c => nxt M10 ?_ (Scr_trans S7 S10), fun c => m_ft hC hM3 hG hLM3 hx ?_⟩
  · rw [mb_in hx c2]; simp only [fiB]
    rw [show fiR t (mB x) = none from find_n (fun j y hj hy => hlow j y (by omega) hy)]
  · obtain ⟨r, hr⟩ := lt_some (show k < (rsB (mB x)).length by omega)
    refine m_rdB hC hM3 hG hLM3 hOK hx hr s40 s41 s42 ?_
    intro M' S' t40 t41 t46 t42 t49 t51 t47 t48 t50 t52
    rw [t47]
    refine ⟨fun g x26 e26 => ?_, fun g => m_ba hC (Scr_SM S' hM3) hG (Scr_LogM hC S' hLM3) hx ?_⟩
    · rw [nI_1] at e26
      subst e26
      refine hag2 _ _ ⟨k + 1, by omega, rfl, fun j c' hj hc' => ?_, Scr_trans S10 S', t40, t41, t42⟩ ?_
      · by_cases e : j = k
        · subst e; rw [hr] at hc'; cases hc'
          exact decide_eq_false (Int64.not_le.mpr g)
        · exact hlow j c' (by omega) hc'
      · rw [nI_clamp (by omega), nI_clamp (by omega)]; omega
    · rw [t48]
      have := h M' (Scr_trans S7 (Scr_trans S10 S'))
      rw [he, mb_in hx c2] at this
      simp only [fiB] at this
      rwa [show fiR t (mB x) = some r from find_s hlow hr (decide_eq_true (Int64.not_lt.mp g))] at this
def lgF (w : Int32) (b : Bt) : Int64 := if w = 3 then 1 else if w = 4 then (cntB b).toInt64 else (nI b.length).toInt64
theorem m_logL {Y : Ly} {q : Nat → Nat → Nat} {nL W nB : Nat} {hp ht : Nat} {S : Nat → List Sg} {B : List Bm} {st en : Nat → Int64} {M : Mm} (hC : SC Y q nL W nB) (hM : SM q (mR M)) (hG : Geo nL W nB S) (hLM : LogM q nL W nB M st en S B hp ht) {l : Nat} {w : Int32} {Kn : Int64 → Mm → Prop} (hl : l ≤ nL) (h : Kn (smJ (lgF w) (BS (S l))) M) : ∃ n, LOOP3 (L_X12_log_80 Y (q 20 0) (nI l) w Kn) n 0 0 M := by
  have hd := sdims hC
  have hct := Lnk_count hG hLM.2.2.2.2.2.2.2.2
  rw [← mb_BS hLM.2.2.2.2.2.2.2.2 hl] at h
  refine LOOP3_inv (fun x7 x8 M9 => ∃ i, i ≤ B.length ∧ x8 = nI i ∧ smJ (lgF w) (mb l B) = x7 + smJ (lgF w) (mb l (B.drop i)) ∧ M9 = M) (fun _ x8 _ => B.length - x8.toNatClampNeg) ?_ _ _ _ ⟨0, by omega, rfl, by rw [Int64.zero_add]; rfl, rfl⟩
  rintro x7 x8 M9 again ⟨i, hi, rfl, he, rfl⟩ hag
  unfold L_X12_log_80
  rw [hLM.2.1, nI_cmp (by omega) (by omega)]
  refine ⟨fun c => ?_, fun c => ?_⟩
  · rw [he, mb_end c] at h
    simpa [smJ, Int64.add_zero] using h
  obtain ⟨x, hx⟩ := lt_some (show i < B.length by omega)
  obtain ⟨hin, hol⟩ := m_ol hC hM hG hLM hx hl
  obtain ⟨v1, v2, v3, v4, v5, v6, v7, v8, v9⟩ := m_at hG hLM hx
  have nxt : ∀ y, smJ (lgF w) (mb l (B.drop i)) = y + smJ (lgF w) (mb l (B.drop (i + 1))) → f_X12_log_137 Y x7 (nI i) again y M9 := by
    intro y e x16 e16 x17 e17
    rw [nI_1] at e17
    subst e16 e17
    refine hag _ _ _ ⟨i + 1, by omega, rfl, by rw [he, e, Int64.add_assoc], rfl⟩ ?_
    rw [nI_clamp (by omega), nI_clamp (by omega)]; omega
  refine ⟨_, sm_19 hM, sk_20_20 hC, hin, ?_⟩
  rw [hol]
  refine ⟨fun c2 => ?_, fun c2 => nxt 0 (by rw [mb_out hx c2, Int64.zero_add])⟩
  have st : ∀ y, lgF w (mB x) = y → smJ (lgF w) (mb l (B.drop i)) = y + smJ (lgF w) (mb l (B.drop (i + 1))) := by
    intro y e; rw [mb_in hx c2]; simp only [smJ, e]
  refine ⟨fun c3 => ⟨fun c4 => ⟨_, sm_21 hM, sk_20_22 hC, by rw [sn_20_22 hC]; exact vp_in_nI (by omega) (by decide), nxt _ (st _ ?_)⟩, fun c4 => m_ct hC hM hG hLM hx (nxt _ (st _ ?_))⟩, fun c3 => nxt _ (st _ ?_)⟩
  · unfold lgF; rw [if_neg c3, if_neg c4, nI_clamp (by omega), v3]; rfl
  · unfold lgF; rw [if_neg c3, if_pos c4]
  · unfold lgF; rw [if_pos c3]
theorem smJ_1 : ∀ (xs : List Bt), smJ (lgF 3) xs = lN xs.length
  | [] => rfl
  | b :: xs => by
    simp only [smJ, smJ_1 xs, List.length_cons]
    rw [show lgF 3 b = lN 1 from rfl, lN_add, Nat.add_comm]
theorem smJ_2 (xs : List Bt) : smJ (lgF 4) xs = smJ (fun b => (cntB b).toInt64) xs := by
  congr 1
theorem smJ_3 : ∀ (xs : List Bt), (∀ b, b ∈ xs → b.length < 2 ^ 31) → smJ (lgF 5) xs = lN (tot xs)
  | [], _ => rfl
  | b :: xs, h => by
    simp only [smJ, smJ_3 xs (fun b hb => h b (List.mem_cons_of_mem _ hb))]
    rw [show lgF 5 b = (nI b.length).toInt64 from rfl, nI_l (h b List.mem_cons_self), lN_add]; rfl
theorem BS_tot (S : List Sg) : tot (BS S) = szs S := by
  unfold tot szs BS
  induction S with
  | nil => rfl
  | cons s S ih => simp only [List.flatMap_cons, List.map_append, List.sum_append, List.map_cons, List.sum_cons, ih]; rfl
/-! fetching by the model -/
noncomputable def skF (off : Int64) : List Bt → List Bt
  | [] => []
  | b :: bs => if off ≤ hiB b then b :: bs else skF off bs
theorem skF_drop {off : Int64} : ∀ {bs : List Bt} {i : Nat}, i ≤ bs.length → (∀ j b, j < i → bs[j]? = some b → ¬ off ≤ hiB b) → (∀ b, bs[i]? = some b → off ≤ hiB b) → bs.drop i = skF off bs
  | [], i, _, _, _ => by simp [skF]
  | b :: bs, 0, _, _, h => by simp only [skF, List.drop_zero]; rw [if_pos (h b rfl)]
  | b :: bs, i + 1, hi, hl, h => by
    simp only [skF, List.drop_succ_cons]
    rw [if_neg (hl 0 b (by omega) rfl)]
    exact skF_drop (by simpa using hi) (fun j c hj hc => hl (j + 1) c (by omega) (by simpa using hc)) (fun c hc => h c (by simpa using hc))
def Pf : Nat → Nat → Nat → Prop := fun a b j => a = 20 ∧ ((b = 0 ∧ (j = 33 ∨ (41 ≤ j ∧ j ≤ 52))) ∨ b = 33)
theorem Pf_LogM {q : Nat → Nat → Nat} {nL W nB : Nat} {M M' : Mm} {st en : Nat → Int64} {S : Nat → List Sg} {B : List Bm} {hp ht : Nat} (h : LogM q nL W nB M st en S B hp ht) (e : EfH q Pf M M') : LogM q nL W nB M' st en S B hp ht := LogM_ef h e (fun a b j h => by unfold PLg at h; unfold Pf; omega)
theorem Pf_Scr {Y : Ly} {q : Nat → Nat → Nat} {nL W nB : Nat} {M M' : Mm} (hC : SC Y q nL W nB) (h : Scr q M M') : EfH q Pf M M' := EfH_mono (EfH_Scr hC h) (fun a b j h => by unfold P4 at h; unfold Pf; omega)
theorem FetM_Scr {Y : Ly} {q : Nat → Nat → Nat} {nL W nB : Nat} {M M' : Mm} {fs : List Bt} (hC : SC Y q nL W nB) (h : Scr q M M') (hF : FetM q M fs) : FetM q M' fs := by
  unfold FetM
  rw [h.2.2.1 33 (by omega), Scr_I hC h (by omega)]; exact hF
/-- the bytes of one batch -/
theorem m_fcopy {Y : Ly} {q : Nat → Nat → Nat} {nL W nB : Nat} {hp ht : Nat} {S : Nat → List Sg} {B : List Bm} {st en : Nat → Int64} {M : Mm} (hC : SC Y q nL W nB) (hM : SM q (mR M)) (hG : Geo nL W nB S) (hLM : LogM q nL W nB M st en S B hp ht) (hOK : LogOK nL S) {i : Nat} {x : Bm} {fs : List Bt} {y29 y31 : Int32} {ag : Int32 → Int32 → Int32 → Mm → Prop} (hx : B[i]? = some x) (hF : FetM q M fs) (hFO : FetOK fs) (hy : ¬ y29 = 0 → ¬ y31 = 0 → tot fs + mN x ≤ 32768)
    (h0 : y29 = 0 ∨ y31 = 0 → f_X12_fetch_226 Y (nI i) ag y29 y31 M) (h1 : ¬ y29 = 0 → ¬ y31 = 0 → ∀ M', EfH q Pf M M' → FetM q M' (fs ++ [mB x]) → f_X12_fetch_226 Y (nI i) ag y29 y31 M') : f_X12_fetch_159 Y (q 20 0) (nI i) ag y29 M y31 := by
  have hd := sdims hC
  have hct := Lnk_count hG hLM.2.2.2.2.2.2.2.2
  have hi := some_lt hx
  obtain ⟨v1, v2, v3, v4, v5, v6, v7, v8, v9⟩ := m_at hG hLM hx
  have hb2 := (m_bok hOK hLM hx).2.1
  have hmN : mN x = (mB x).length := rfl
  have hH := hLM.2.2.2.2.1
  obtain ⟨kh, nh⟩ := hp_k hC hH.1
  have ht := hFO.1
  have nF := sn_20_33 hC
  have hin : ∀ b, yN Y b = 4500 → vp_in (nI i) (yN Y b) := fun b hb => by rw [hb]; exact vp_in_nI (by omega) (by decide)
  unfold f_X12_fetch_159
  by_cases hz : y29 = 0 ∨ y31 = 0
  · refine ⟨1, ?_⟩
    unfold LOOP2 L_X12_fetch_164
    refine ⟨_, sm_21 hM, sk_20_22 hC, hin _ (sn_20_22 hC), fun _ => h0 hz, fun _ => ⟨fun _ => h0 hz, fun c1 => ⟨fun _ => h0 hz, fun c2 => ?_⟩⟩⟩
    rcases hz with z | z
    · exact absurd z c1
    · exact absurd z c2
  · have c1 : ¬ y29 = 0 := fun z => hz (Or.inl z)
    have c2 : ¬ y31 = 0 := fun z => hz (Or.inr z)
    have hle := hy c1 c2
    refine LOOP2_inv (fun x32 M33 => ∃ k, k ≤ mN x ∧ x32 = nI k ∧ EfH q Pf M M33 ∧ mI M33 (q 20 0) 33 = nI (tot fs + k) ∧ (∀ j, mI M33 (q 20 33) j = if tot fs ≤ j ∧ j < tot fs + k then (m8 (mB x)).getD (j - tot fs) 0 else mI M (q 20 33) j)) (fun x32 _ => mN x - x32.toNatClampNeg) ?_ _ _ ⟨0, by omega, rfl, EfH_refl _ _ _, hF.1, fun j => by rw [if_neg (by omega)]⟩
    rintro x32 M33 again ⟨k, hk, rfl, E, e33, eF⟩ hag
    have hLM2 := Pf_LogM hLM E
    have hM2 := Ef_SM E.1 hM
    obtain ⟨u1, u2, u3, u4, u5, u6, u7, u8, u9⟩ := m_at hG hLM2 hx
    unfold L_X12_fetch_164
    refine ⟨_, sm_21 hM2, sk_20_22 hC, hin _ (sn_20_22 hC), ?_⟩
    rw [nI_clamp (by omega), u3, nI_cmp (by omega) (by omega)]
    refine ⟨fun c => h1 c1 c2 M33 E ?_, fun c => ⟨fun z => absurd z c1, fun _ => ⟨fun z => absurd z c2, fun _ => ⟨_, sm_32 hM2, _, hLM2.2.2.2.2.1.2.1, _, sm_20 hM2, sk_20_21 hC, hin _ (sn_20_21 hC), kh, ?_, sk_20_33 hC, ?_, fun M49 e49 M50 e50 x51 e51 => ?_⟩⟩⟩⟩
    · have hkn : k = mN x := by omega
      subst hkn
      refine ⟨by rw [e33, tot_s]; rfl, fun p hp => ?_⟩
      rw [pbs_s, List.mem_append, List.mem_singleton] at hp
      rcases hp with hp | rfl
      · have hlo := (pbs_hi hp).1
        refine Lie_move (hF.2 p hp) (fun j hj => ?_)
        rw [m8_len] at hj
        rw [eF, if_neg (by omega)]
      · refine Lie_of (fun j hj => ?_)
        rw [m8_len] at hj
        dsimp only at hj ⊢
        rw [eF, if_pos (by omega), show tot fs + j - tot fs = j from by omega]
    · rw [u2, nI_add, nh]; exact vp_in_nI (by omega) (by decide)
    · rw [e33, nF]; exact vp_in_nI (by omega) (by decide)
    · rw [u2, nI_add, nI_clamp (by omega), e33, nI_clamp (by omega)] at e49
      have q33 : mI M49 (q 20 0) 33 = nI (tot fs + k) := by rw [e49, I_ne hC _ _ (by omega)]; exact e33
      rw [q33, nI_1] at e50
      rw [nI_1] at e51
      subst e51
      have E49 : EfH q Pf M33 M49 := EfH_sI hC e49 ⟨rfl, Or.inr rfl⟩
      have E50 : EfH q Pf M49 M50 := EfH_sI hC e50 ⟨rfl, Or.inl ⟨rfl, Or.inl rfl⟩⟩
      refine hag _ _ ⟨k + 1, by omega, rfl, EfH_trans E (EfH_trans E49 E50), ?_, fun j => ?_⟩ ?_
      · rw [e50, mI_sI_self]; simp [m1]; rfl
      · rw [e50, I_ne hC _ _ (by omega), e49, mI_sI_self]
        have hL := Lie_get u5 (j := k) (by rw [m8_len]; omega)
        simp only [m1]
        by_cases e : j = tot fs + k
        · rw [if_pos e, if_pos (by omega), hL]; congr 1; omega
        · rw [if_neg e, eF]
          by_cases g : tot fs ≤ j ∧ j < tot fs + k
          · rw [if_pos g, if_pos (by omega)]
          · rw [if_neg g, if_neg (by omega)]
      · rw [nI_clamp (by omega), nI_clamp (by omega)]; omega
theorem tot_0 {fs : List Bt} (h : ∀ b, b ∈ fs → BatOK b) : tot fs = 0 ↔ fs = [] := by
  refine ⟨fun e => ?_, fun e => by rw [e]; rfl⟩
  have := tot_61 h
  exact List.length_eq_zero_iff.mp (by omega)
theorem m_fetchL {Y : Ly} {q : Nat → Nat → Nat} {nL W nB : Nat} {hp ht : Nat} {S : Nat → List Sg} {B : List Bm} {st en : Nat → Int64} {M : Mm} (hC : SC Y q nL W nB) (hM : SM q (mR M)) (hG : Geo nL W nB S) (hLM : LogM q nL W nB M st en S B hp ht) (hOK : LogOK nL S) {l most : Nat} {off : Int64} {Kn : Int32 → Mm → Prop} (hl : l ≤ nL) (hm : most ≤ 32768) (hF : FetM q M [])
    (h : ∀ M', EfH q Pf M M' → FetM q M' (tkF most [] (skF off (BS (S l)))) → Kn (nI (tot (tkF most [] (skF off (BS (S l)))))) M') : ∃ n, LOOP4 (L_X12_fetch_77 Y (q 20 0) (nI l) off (nI most) Kn) n 0 1 0 M := by
  have hd := sdims hC
  have hct := Lnk_count hG hLM.2.2.2.2.2.2.2.2
  rw [← mb_BS hLM.2.2.2.2.2.2.2.2 hl] at h
  refine LOOP4_inv (fun x15 x16 x17 M18 => ∃ i gs, i ≤ B.length ∧ x17 = nI i ∧ EfH q Pf M M18 ∧ FetM q M18 gs ∧ FetOK gs ∧ ((x16 = 1 ∧ x15 = 0 ∧ gs = [] ∧ tkF most [] (skF off (mb l B)) = tkF most [] (skF off (mb l (B.drop i)))) ∨ (x16 = 1 ∧ x15 = 1 ∧ tkF most [] (skF off (mb l B)) = tkF most gs (mb l (B.drop i))) ∨ (x16 = 0 ∧ tkF most [] (skF off (mb l B)) = gs))) (fun _ _ x17 _ => B.length - x17.toNatClampNeg) ?_ _ _ _ _ ⟨0, [], by omega, rfl, EfH_refl _ _ _, hF, ⟨by decide, fun b hb => by cases hb⟩, Or.inl ⟨rfl, rfl, rfl, rfl⟩⟩
  rintro x15 x16 x17 M18 again ⟨i, gs, hi, rfl, E, hF2, hFO2, hcase⟩ hag
  have hLM2 := Pf_LogM hLM E
  have hM2 := Ef_SM E.1 hM
  unfold L_X12_fetch_77 f_X12_fetch_232
  rw [hLM2.2.1, nI_cmp (by omega) (by omega)]
  have fin : tkF most [] (skF off (mb l B)) = gs → Kn (mI M18 (q 20 0) 33) M18 := by
    intro e
    rw [e] at h
    rw [hF2.1]; exact h M18 E hF2
  refine ⟨fun c => fin ?_, fun c => ⟨fun z => fin ?_, fun z => ?_⟩⟩
  · rcases hcase with ⟨_, _, e, e2⟩ | ⟨_, _, e2⟩ | ⟨_, e2⟩
    · rw [e2, mb_end c, e]; rfl
    · rw [e2, mb_end c]; cases gs <;> rfl
    · exact e2
  · rcases hcase with ⟨e1, _, e, e2⟩ | ⟨e1, _, e2⟩ | ⟨_, e2⟩
    · rw [e1] at z; exact absurd z (by decide)
    · rw [e1] at z; exact absurd z (by decide)
    · exact e2
  have hx16 : x16 = 1 := by
    rcases hcase with ⟨e1, _⟩ | ⟨e1, _⟩ | ⟨e1, _⟩
    · exact e1
    · exact e1
    · exact absurd e1 z
  subst hx16
  obtain ⟨x, hx⟩ := lt_some (show i < B.length by omega)
  obtain ⟨hin, hol⟩ := m_ol hC hM2 hG hLM2 hx hl
  have hb := m_bok hOK hLM2 hx
  have hl61 := tot_61 hFO2.2
  have ht3 := hFO2.1
  have hb2 := hb.2.1
  have hmN : mN x = (mB x).length := rfl
  have dn : ∀ (y29 y31 : Int32) (gs' : List Bt) (M' : Mm), EfH q Pf M M' → FetM q M' gs' → FetOK gs' → ((y31 = 1 ∧ y29 = 0 ∧ gs' = [] ∧ tkF most [] (skF off (mb l B)) = tkF most [] (skF off (mb l (B.drop (i + 1))))) ∨ (y31 = 1 ∧ y29 = 1 ∧ tkF most [] (skF off (mb l B)) = tkF most gs' (mb l (B.drop (i + 1)))) ∨ (y31 = 0 ∧ tkF most [] (skF off (mb l B)) = gs')) → f_X12_fetch_226 Y (nI i) again y29 y31 M' := by
    intro y29 y31 gs' M' E' hF' hFO' hc' x27 e27
    rw [nI_1] at e27
    subst e27
    refine hag _ _ _ _ ⟨i + 1, gs', by omega, rfl, E', hF', hFO', hc'⟩ ?_
    rw [nI_clamp (by omega), nI_clamp (by omega)]; omega
  refine ⟨_, sm_19 hM2, sk_20_20 hC, hin, ?_⟩
  rw [hol]
  refine ⟨fun c2 => dn x15 1 gs M18 E hF2 hFO2 ?_, fun c2 => ?_⟩
  · rw [mb_out hx c2] at hcase; exact hcase
  rw [mb_in hx c2] at hcase
  -- a batch of this log, found
  have found : ∀ M60, EfH q Pf M M60 → FetM q M60 gs → (tkF most [] (skF off (mb l B)) = tkF most gs (mB x :: mb l (B.drop (i + 1)))) → f_X12_fetch_123 Y (q 20 0) (nI most) (nI i) again 1 M60 := by
    intro M60 E60 hF60 he
    have hLM6 := Pf_LogM hLM E60
    have hM6 := Ef_SM E60.1 hM
    obtain ⟨u1, u2, u3, u4, u5, u6, u7, u8, u9⟩ := m_at hG hLM6 hx
    simp only [tkF] at he
    have take : (gs = [] ∨ tot gs + (mB x).length ≤ most) → f_X12_fetch_154 Y (q 20 0) (nI i) again 1 M60 := by
      intro hc
      rw [if_pos hc] at he
      obtain ⟨hFO3, ht⟩ := FetOK_s hFO2 hb hm hc
      refine m_fcopy hC hM6 hG hLM6 hOK hx hF60 hFO2 (fun _ _ => ht) (fun z => absurd z (by decide)) (fun _ _ M' E' hF' => dn 1 1 _ M' (EfH_trans E60 E') hF' hFO3 (Or.inr (Or.inl ⟨rfl, rfl, he⟩)))
    unfold f_X12_fetch_123
    refine ⟨fun z => absurd z (by decide), fun _ => ?_⟩
    rw [hF60.1, show (0 : Int32) = nI 0 from rfl, nI_eq (by omega) (by omega), tot_0 hFO2.2]
    refine ⟨fun c3 => take (Or.inl c3), fun c3 => ⟨_, sm_21 hM6, sk_20_22 hC, by rw [sn_20_22 hC]; exact vp_in_nI (by omega) (by decide), ?_⟩⟩
    rw [nI_clamp (by omega), u3, nI_add, nI_ltI (by omega) (by omega)]
    refine ⟨fun c4 => ?_, fun c4 => take (Or.inr (by omega))⟩
    rw [if_neg (by rintro (e | e); exact c3 e; omega)] at he
    exact m_fcopy hC hM6 hG hLM6 hOK hx hF60 hFO2 (fun _ z => absurd rfl z) (fun _ => dn 1 0 gs M60 E60 hF60 hFO2 (Or.inr (Or.inr ⟨rfl, he⟩))) (fun _ z => absurd rfl z)
  refine ⟨fun c3 => ?_, fun c3 => m_lastOffset hC hM2 hG hLM2 hOK hx ?_⟩
  · rcases hcase with ⟨_, e1, _⟩ | ⟨_, _, e2⟩ | ⟨e1, _⟩
    · exact absurd e1 c3
    · exact found M18 E hF2 e2
    · exact absurd e1 (by decide)
  · intro M60 S60
    rcases hcase with ⟨_, _, e, e2⟩ | ⟨_, e1, _⟩ | ⟨e1, _⟩
    · simp only [skF] at e2
      refine ⟨fun c4 => ?_, fun c4 => found M60 (EfH_trans E (Pf_Scr hC S60)) (FetM_Scr hC S60 hF2) (by rw [e2, if_pos (Int64.not_lt.mp c4), e])⟩
      rw [if_neg (Int64.not_le.mpr c4)] at e2
      unfold f_X12_fetch_123
      refine ⟨fun _ => ?_, fun z => absurd rfl z⟩
      have E60 := EfH_trans E (Pf_Scr hC S60)
      exact m_fcopy hC (Ef_SM E60.1 hM) hG (Pf_LogM hLM E60) hOK hx (FetM_Scr hC S60 hF2) hFO2 (fun z => absurd rfl z) (fun _ => dn 0 1 gs M60 E60 (FetM_Scr hC S60 hF2) hFO2 (Or.inl ⟨rfl, rfl, e, e2⟩)) (fun z => absurd rfl z)
    · rw [c3] at e1; exact absurd e1 (by decide)
    · exact absurd e1 (by decide)
