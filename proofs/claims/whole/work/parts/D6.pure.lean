/-! all keys of a log are noted -/
noncomputable def rsN : List Bt → Nat
  | [] => 0
  | b :: bs => (rsB b).length + rsN bs
theorem rp_7 {b : Bt} {rs : List Rc} (h : RS (b.drop 61) rs) (h61 : 61 ≤ b.length) : ∀ k, k ≤ rs.length → 61 + 7 * k ≤ rp rs k ∧ rp rs k ≤ b.length
  | 0, _ => by rw [rp_0]; exact ⟨Nat.le_refl _, h61⟩
  | k + 1, hk => by
    obtain ⟨a, _⟩ := rp_7 h h61 k (by omega)
    obtain ⟨c, hc⟩ : ∃ c, rs[k]? = some c := ⟨_, List.getElem?_eq_getElem (by omega)⟩
    obtain ⟨r1, r2, r3⟩ := rp_at h h61 hc
    have := (RF_dims r1).2.1
    rw [rp_s hc]
    exact ⟨by omega, r2⟩
theorem rsN_le : ∀ {bs : List Bt}, (∀ b, b ∈ bs → BatOK b) → 7 * rsN bs ≤ tot bs ∧ smJ (fun b => (cntB b).toInt64) bs = lN (rsN bs)
  | [], _ => ⟨Nat.zero_le _, rfl⟩
  | b :: bs, h => by
    obtain ⟨i1, i2⟩ := rsN_le (fun x hx => h x (List.mem_cons_of_mem _ hx))
    have hb := h b (List.mem_cons_self ..)
    obtain ⟨la, hla, hlaB, hrec⟩ := Bat_rec hb
    have h7 := rp_7 hrec.1 hb.1 _ (Nat.le_refl _)
    have et : tot (b :: bs) = b.length + tot bs := by simp [tot]
    refine ⟨?_, ?_⟩
    · rw [et]; show 7 * ((rsB b).length + rsN bs) ≤ _; omega
    · show (cntB b).toInt64 + smJ (fun b => (cntB b).toInt64) bs = lN ((rsB b).length + rsN bs)
      rw [i2, hrec.2.1, nI_l (by have := hrec.2.2.1; omega), lN_add]
noncomputable def aq (X : List (Nat × Bt)) : KQ := X.flatMap (fun x => bq x.1 x.2)
theorem aq_s {X : List (Nat × Bt)} {i : Nat} {x : Nat × Bt} (h : X[i]? = some x) : aq (X.take (i + 1)) = aq (X.take i) ++ bq x.1 x.2 := by
  rw [take_s h]; unfold aq; rw [List.flatMap_append]; simp
theorem aq_len : ∀ (X : List (Nat × Bt)), (aq X).length = rsN (X.map (fun x => x.2))
  | [] => rfl
  | x :: X => by
    have := aq_len X
    unfold aq at this ⊢
    rw [List.flatMap_cons, List.length_append, this, bq_len]; rfl
theorem rsN_app : ∀ (x y : List Bt), rsN (x ++ y) = rsN x + rsN y
  | [], y => by simp [rsN]
  | b :: x, y => by
    show (rsB b).length + rsN (x ++ y) = (rsB b).length + rsN x + rsN y
    rw [rsN_app x y]; omega
def PNl : Nat → Nat → Nat → Prop := fun a b j => a = 0 ∧ ((b = 18 ∧ j = 5) ∨ b = 19 ∨ b = 20 ∨ b = 21)
theorem c_noteKeys {Y : Ly} {q : Nat → Nat → Nat} {nL W nB : Nat} {S : Nat → List Sg} {st en : Nat → Int64} {M : Mm} (hC : SC Y q nL W nB) (hR : SR q nL (mR M)) (hG : Geo nL W nB S) (hLC : LogC q nL W nB M st en S) (hD : DkA nL (mI M (q 0 11)) st en S) (hOK : LogOK nL S) {l : Nat} {Kn : Mm → Prop} (hl : l ≤ nL) (h : ∀ m T P M', m = 2 * rsN (BS (S l)) + 1 → m ≤ 2 * (nB * 1024 / 7) + 1 → LK m (fun k => fmd (ckv k) m) T P (aq (PS (S l))) → HT q nB M' m T P → Ec q PNl M M' → Kn M') : f_X2_noteLatestKeys Y (q 0 18) (q (l + 1) 0) M Kn := by
  have hd := sdims hC
  have n11 := sn_0_11 hC
  have hct := Geo_count hG hl
  have hPB := BSPS (S l)
  obtain ⟨r7, rc⟩ := rsN_le (hOK l hl)
  rw [BS_tot] at r7
  have hsz := Geo_szs hG hl
  obtain ⟨R, eR⟩ : ∃ R, R = rsN (BS (S l)) := ⟨_, rfl⟩
  rw [← eR] at r7 rc h
  have hR7 : R ≤ nB * 1024 / 7 := by omega
  obtain ⟨m, em⟩ : ∃ m, m = 2 * R + 1 := ⟨_, rfl⟩
  have hmc : m ≤ 2 * (nB * 1024 / 7) + 1 := by omega
  unfold f_X2_noteLatestKeys
  refine ⟨sk_0_18 hC, _, sr_0_18_0 hR, sk_0_13 hC, c_countRecs hC hR hG hLC hD hl ⟨_, sr_0_18_3 hR, sk_0_20 hC, fun M8 e8 => ?_⟩⟩
  rw [rc, sn_0_20 hC, nI_l (by omega), show 2 * lN R + 1 = lN m from by rw [em, show (2 : Int64) = lN 2 from rfl, lN_mul, show (1 : Int64) = lN 1 from rfl, lN_add]] at e8
  have hlt : ¬ lN (2 * (nB * 1024 / 7) + 1) < lN m := by
    rw [Int64.not_lt, pk_lLE (by omega) (by omega)]; exact hmc
  rw [if_neg hlt, lN_i] at e8
  have E8 : Ec q PNl M M8 := Ec_sI hC e8 ⟨rfl, Or.inl ⟨rfl, rfl⟩⟩
  have hR8 : SR q nL (mR M8) := by rw [E8.2]; exact hR
  have m8' : mI M8 (q 0 18) 5 = nI m := by rw [e8, mI_sI_self]; exact m1_at _ _ _
  refine ⟨_, sr_0_18_3 hR8, ?_⟩
  rw [m8']
  have fl := s_fillI (Y := Y) (row := q 0 20) (a := 0) (n := m) (v := -1) (M := M8) (Kn := fun M10 => ∃ n, LOOP2 (L_X2_noteLatestKeys_43 Y (q 0 18) (q (l + 1) 0) Kn) n 0 M10) (sk_0_20 hC) (by rw [sn_0_20 hC]; omega) (by rw [sn_0_20 hC]; omega)
  rw [Nat.zero_add] at fl
  refine fl ?_
  obtain ⟨M10, e10⟩ : ∃ M10, M10 = sI M8 (q 0 20) (fillR (mI M8 (q 0 20)) 0 (-1) m) := ⟨_, rfl⟩
  rw [← e10]
  have E10 : Ec q PNl M M10 := Ec_trans E8 (Ec_sIr hC e10 (fun j => ⟨rfl, by omega⟩))
  have ht10 : HT q nB M10 m (fun _ => none) (fun _ => 0) := by
    refine ⟨by rw [e10, I_ne hC _ _ (by decide)]; exact m8', fun j hj => ⟨fun _ => ?_, (fun k hk => by cases hk)⟩⟩
    rw [e10, mI_sI_self, fillR_at, if_pos (by omega)]
  refine LOOP2_inv (fun x11 M12 => ∃ i T P, i ≤ (PS (S l)).length ∧ x11 = nI i ∧ Ec q PNl M M12 ∧ LK m (fun k => fmd (ckv k) m) T P (aq ((PS (S l)).take i)) ∧ HT q nB M12 m T P) (fun x11 _ => (PS (S l)).length - x11.toNatClampNeg) ?_ _ _ ⟨0, _, _, by omega, rfl, E10, LK_0 _ _ _, ht10⟩
  rintro x11 M12 again ⟨i, T, P, hi, rfl, E, lk, ht⟩ hag
  have hR12 : SR q nL (mR M12) := by rw [E.2]; exact hR
  have hLC12 : LogC q nL W nB M12 st en S := LogC_ec hLC E (fun j => by unfold PNl; omega) (fun l b j hl => by unfold PNl; omega)
  have d12 : mI M12 (q 0 11) = mI M (q 0 11) := Ec_I E (fun j => by unfold PNl; omega)
  have hD12 : DkA nL (mI M12 (q 0 11)) st en S := by rw [d12]; exact hD
  unfold L_X2_noteLatestKeys_43
  refine ⟨sk_t_0 hC l hl, ?_⟩
  rw [(hLC12.2.2 l hl).2.1.2.1]
  refine pk_le (PS (S l)).length i (fun g => ?_) (fun g => ?_)
  · rw [List.take_of_length_le g] at lk
    exact h m T P M12 em hmc lk ht E
  · obtain ⟨x, hx⟩ := lt_some g
    obtain ⟨v1, v2, v3, v4⟩ := c_at (Y := Y) hG hLC12 hD12 hl hx
    have w1 : (BS (S l))[i]? = some x.2 := by rw [← PS_snd, List.getElem?_map, hx]; rfl
    have hb := hOK l hl x.2 (List.mem_of_getElem? w1)
    obtain ⟨la, hla, hlaB, hrec⟩ := Bat_rec hb
    have vi : vp_in (nI i) (yN Y (q (l + 1) 4)) := by rw [sn_t_4 hC l hl]; exact vp_in_nI (by omega) (by omega)
    have ci : (nI i).toNatClampNeg = i := nI_clamp (by omega)
    refine ⟨_, sr_0_18_1 hR12, _, sr_t_8 hR12 l hl, sk_t_4 hC l hl, vi, ?_⟩
    rw [ci, v1]
    refine s_countOf (sk_0_11 hC) (by omega) (by omega) ⟨_, sr_t_8 hR12 l hl, sk_t_4 hC l hl, vi, _, sr_0_18_1 hR12, _, sr_t_8 hR12 l hl, sk_t_4 hC l hl, vi, ?_⟩
    rw [v1]
    refine s_sizeOf (sk_0_11 hC) (by omega) (by omega) (fun x30 e30 => ⟨_, sr_t_8 hR12 l hl, sk_t_4 hC l hl, vi, fun x34 e34 => ?_⟩)
    rw [sz_B v2 hb, nI_add] at e30
    rw [v1, show nI x.1 + 61 = nI (x.1 + 61) from nI_add _ 61] at e34
    subst e30 e34
    rw [cnt_fB v2 v4, hrec.2.1]
    have hq : (aq ((PS (S l)).take i)).length + (rsB x.2).length < m := by
      have e1 : (aq ((PS (S l)).take (i + 1))).length = (aq ((PS (S l)).take i)).length + (rsB x.2).length := by rw [aq_s hx, List.length_append, bq_len]
      rw [← e1, aq_len, List.map_take, PS_snd]
      have : R = rsN ((BS (S l)).take (i + 1)) + rsN ((BS (S l)).drop (i + 1)) := by rw [← rsN_app, List.take_append_drop]; exact eR
      omega
    refine c_noteB hC hR12 v2 v3 hb (by omega) hmc lk ht hq (fun T' P' M' lk' ht' E' => ?_)
    rw [nI_1]
    refine hag _ _ ⟨i + 1, T', P', by omega, rfl, Ec_trans E (Ec_mono E' (fun a b j z => by unfold PNk at z; unfold PNl; omega)), by rw [aq_s hx]; exact lk', ht'⟩ (by rw [nI_clamp (by omega), nI_clamp (by omega)]; omega)
