/-! records of a batch, one behind the other -/
theorem LogC_fr {Y : Ly} {q : Nat → Nat → Nat} {nL W nB : Nat} {S : Nat → List Sg} {st en : Nat → Int64} {M M' : Mm} {A : Nat → Nat → Prop} (hC : SC Y q nL W nB) (h : LogC q nL W nB M st en S) (F : Fr q A M M') (h13 : ¬ A 0 13) (hA : ∀ l c, ¬ A (l + 1) c) : LogC q nL W nB M' st en S := by
  have i13 := Fr_I hC F h13
  refine ⟨by rw [i13]; exact h.1, by rw [i13]; exact h.2.1, fun l hl => ?_⟩
  have ei : ∀ c, mI M' (q (l + 1) c) = mI M (q (l + 1) c) := fun c => Fr_I hC F (hA l c)
  have ej : mJ M' (q (l + 1) 0) = mJ M (q (l + 1) 0) := Fr_J hC F (hA l 0)
  obtain ⟨a, b, c, d⟩ := h.2.2 l hl
  exact ⟨by rw [ei]; exact a, TabM_of b ei, by rw [ej]; exact c, by rw [ej]; exact d⟩
theorem RS_at : ∀ {rs : List Rc} {bs : List Int32} {k : Nat} {c : Rc}, RS bs rs → rs[k]? = some c → RF (bs.drop ((rs.take k).map rC).sum) c ∧ ((rs.take k).map rC).sum + rC c ≤ bs.length
  | [], _, _, _, _, h => by simp at h
  | d :: rs, bs, 0, c, h, hk => by
    simp only [List.getElem?_cons_zero, Option.some.injEq] at hk
    subst hk
    simp only [List.take_zero, List.map_nil, List.sum_nil, List.drop_zero, Nat.zero_add]
    exact ⟨h.1, (RF_dims h.1).1⟩
  | d :: rs, bs, k + 1, c, h, hk => by
    simp only [List.getElem?_cons_succ] at hk
    obtain ⟨a, b⟩ := RS_at h.2 hk
    have := (RF_dims h.1).1
    rw [List.drop_drop] at a
    rw [List.length_drop] at b
    simp only [List.take_succ_cons, List.map_cons, List.sum_cons]
    exact ⟨a, by omega⟩
def rp (rs : List Rc) (k : Nat) : Nat := 61 + ((rs.take k).map rC).sum
theorem rp_0 (rs : List Rc) : rp rs 0 = 61 := by simp [rp]
theorem rp_s {rs : List Rc} {k : Nat} {c : Rc} (h : rs[k]? = some c) : rp rs (k + 1) = rp rs k + rC c := by
  unfold rp; rw [take_s h]; simp; omega
theorem rp_at {b : Bt} {rs : List Rc} {k : Nat} {c : Rc} (h : RS (b.drop 61) rs) (h61 : 61 ≤ b.length) (hk : rs[k]? = some c) : RF (b.drop (rp rs k)) c ∧ rp rs k + rC c ≤ b.length ∧ 61 ≤ rp rs k := by
  obtain ⟨a, d⟩ := RS_at h hk
  rw [List.drop_drop] at a
  rw [List.length_drop] at d
  unfold rp
  exact ⟨a, by omega, by omega⟩
/-- the class reads record k of a batch that lies at p -/
theorem c_rd {Y : Ly} {v row p e k : Nat} {b : Bt} {rs : List Rc} {c : Rc} {M : Mm} {Kn : Int32 → Mm → Prop} (hkv : yK Y v = 10) (hkr : yK Y row = 100) (hne : row ≠ v) (hL : Lie (mI M row) p b) (h61 : 61 ≤ b.length) (hRS : RS (b.drop 61) rs) (hk : rs[k]? = some c) (he : p + b.length ≤ e) (hN : e ≤ yN Y row) (hb : yN Y row < 2 ^ 31)
    (h : ∀ f g, f 2 = nI (p + rp rs k + rKa c) → f 3 = (rK c).toInt32 → f 4 = nI (p + rp rs k + rVa c) → f 5 = (rV c).toInt32 → f 6 = nI (p + rp rs (k + 1)) → g 0 = rT c → g 1 = rO c → Kn 1 (vq M v f g)) : f_X10_read Y v row (nI (p + rp rs k)) (nI e) M Kn := by
  obtain ⟨h1, h2, h3⟩ := rp_at hRS h61 hk
  obtain ⟨w, hw⟩ : ∃ w, w = (List.range (e - (p + b.length))).map (fun j => mI M row (p + b.length + j)) := ⟨_, rfl⟩
  have hwl : w.length = e - (p + b.length) := by rw [hw]; simp
  have hbl : (b.drop (rp rs k) ++ w).length = e - (p + rp rs k) := by rw [List.length_append, List.length_drop, hwl]; omega
  have hLw : Lie (mI M row) (p + rp rs k) (b.drop (rp rs k) ++ w) := by
    refine Lie_app.mpr ⟨Lie_drop hL _ (by omega), ?_⟩
    refine Lie_of (fun j hj => ?_)
    rw [List.length_drop, show p + rp rs k + (b.length - rp rs k) = p + b.length from by omega]
    rw [hwl] at hj
    rw [hw]
    simp [List.getD_eq_getElem?_getD, hj]
  have hR2 := RF_more h1 w
  rw [show nI e = nI (p + rp rs k + (b.drop (rp rs k) ++ w).length) from by rw [hbl]; congr 1; omega]
  refine s_read hkv hkr hne hLw (by rw [hbl]; omega) hb ?_ (fun hn => absurd hR2 (hn c))
  intro c' hc' f g f2 f3 f4 f5 f6 g0 g1
  have := RF_fun hc' hR2
  subst this
  exact h f g f2 f3 f4 f5 (by rw [f6, rp_s hk]; congr 1; omega) g0 g1
noncomputable def rsB (b : Bt) : List Rc := Classical.epsilon (fun rs => RS (b.drop 61) rs)
theorem RS_fun : ∀ {rs rs' : List Rc} {bs : List Int32}, RS bs rs → RS bs rs' → rs = rs'
  | [], [], _, _, _ => rfl
  | [], c :: cs, bs, h, h' => by
    have e : bs = [] := h
    subst e
    have := RF_dims h'.1
    simp at this; omega
  | c :: cs, [], bs, h, h' => by
    have e : bs = [] := h'
    subst e
    have := RF_dims h.1
    simp at this; omega
  | c :: cs, d :: ds, bs, h, h' => by
    have := RF_fun h.1 h'.1
    subst this
    rw [RS_fun h.2 h'.2]
theorem rsB_eq {b : Bt} {rs : List Rc} (h : RS (b.drop 61) rs) : rsB b = rs := RS_fun (Classical.epsilon_spec (p := fun rs => RS (b.drop 61) rs) ⟨rs, h⟩) h
theorem Bat_rec {b : Bt} (h : BatOK b) : ∃ la, la < 1000 ∧ laB b = nI la ∧ RecOK b (rsB b) la := by
  obtain ⟨la, rs, h1, h2, h3⟩ := h.2.2.2.2.2.2.2
  refine ⟨la, h1, h2, ?_⟩
  rw [rsB_eq h3.1]; exact h3
theorem OfS_mem : ∀ {rs : List Rc} {lo la : Nat} {c : Rc}, OfS lo rs la → c ∈ rs → ∃ o, rO c = lN o ∧ lo ≤ o ∧ o ≤ la
  | [], _, _, _, _, h => by cases h
  | d :: rs, lo, la, c, ⟨o, h1, h2, h3, h4⟩, h => by
    rcases List.mem_cons.mp h with rfl | h
    · exact ⟨o, h1, h2, h3⟩
    · obtain ⟨o', g1, g2, g3⟩ := OfS_mem h4 h
      exact ⟨o', g1, by omega, g3⟩
def lsO (d : Int64) : List Rc → Int64
  | [] => d
  | c :: cs => lsO (rO c) cs
theorem lsO_s (d : Int64) : ∀ (rs : List Rc) (c : Rc), lsO d (rs ++ [c]) = rO c
  | [], c => rfl
  | e :: rs, c => lsO_s (rO e) rs c
theorem OfS_ls : ∀ {rs : List Rc} {lo la : Nat} {d : Int64}, OfS lo rs la → rs ≠ [] → ∃ o, lsO d rs = lN o ∧ lo + rs.length ≤ o + 1 ∧ o ≤ la
  | [], _, _, _, _, h => absurd rfl h
  | [c], lo, la, d, ⟨o, h1, h2, h3, _⟩, _ => ⟨o, h1, by simp; omega, h3⟩
  | c :: e :: rs, lo, la, d, ⟨o, h1, h2, h3, h4⟩, _ => by
    obtain ⟨o', g1, g2, g3⟩ := OfS_ls (d := rO c) h4 (by simp)
    refine ⟨o', g1, ?_, g3⟩
    simp only [List.length_cons] at g2 ⊢
    omega
/-- the greatest offset of a batch -/
noncomputable def hiB (b : Bt) : Int64 := baB b + lsO (laB b).toInt64 (rsB b)
def F1 (c : Nat) : Nat → Nat → Prop := fun a b => a = 0 ∧ b = c
theorem Fr_vq {q : Nat → Nat → Nat} {A : Nat → Nat → Prop} (M : Mm) (a b : Nat) (f : Nat → Int32) (g : Nat → Int64) (h : A a b) : Fr q A M (vq M (q a b) f g) := Fr_trans (Fr_sI _ _ _ _ h) (Fr_sJ _ _ _ _ h)
theorem sz_B {f : Nat → Int32} {p : Nat} {b : Bt} (h : Lie f p b) (hb : BatOK b) : b_sizeOf f p = nI b.length := by rw [sz_fB h hb.1]; exact hb.2.2.2.1
theorem c_lastLeft {Y : Ly} {q : Nat → Nat → Nat} {nL W nB : Nat} {M : Mm} {Kn : Int64 → Mm → Prop} {b : Bt} {p : Nat} (hC : SC Y q nL W nB) (hR : SR q nL (mR M)) (hL : Lie (mI M (q 0 11)) p b) (hp : p + b.length ≤ nB * 1024) (hb : BatOK b) (h : ∀ M', Fr q (F1 17) M M' → Kn (lsO 0 (rsB b)) M') : f_X9_lastOffsetLeft Y (q 0 13) (nI p) (nI (rsB b).length) M Kn := by
  have hd := sdims hC
  obtain ⟨la, hla, _, hrec⟩ := Bat_rec hb
  have h61 := hb.1
  have hlen := hrec.2.2.1
  have n11 := sn_0_11 hC
  unfold f_X9_lastOffsetLeft
  refine ⟨sk_0_13 hC, _, sr_0_13_0 hR, sk_0_10 hC, _, sr_0_10_0 hR, ?_⟩
  refine s_sizeOf (sk_0_11 hC) (by omega) (by omega) ?_
  rw [sz_B hL hb, nI_add, show nI p + 61 = nI (p + 61) from nI_add p 61]
  intro x7 e7 x8 e8
  subst e7 e8
  refine LOOP4_inv (fun x9 x10 x11 M12 => ∃ k, k ≤ (rsB b).length ∧ x11 = nI k ∧ x10 = nI (p + rp (rsB b) k) ∧ x9 = lsO 0 ((rsB b).take k) ∧ Fr q (F1 17) M M12) (fun _ _ x11 _ => (rsB b).length - x11.toNatClampNeg) ?_ _ _ _ _ ⟨0, by omega, rfl, by rw [rp_0], rfl, Fr_refl _ _ _⟩
  rintro x9 x10 x11 M12 again ⟨k, hk, rfl, rfl, rfl, F⟩ hag
  unfold L_X9_lastOffsetLeft_26 f_X9_lastOffsetLeft_76
  rw [nI_cmp (by omega) (by omega)]
  have hR12 : SR q nL (mR M12) := by rw [F.2]; exact hR
  have hL12 : Lie (mI M12 (q 0 11)) p b := by rw [Fr_I hC F (by simp [F1])]; exact hL
  refine ⟨fun c => ?_, fun c => ⟨_, sr_0_13_6 hR12, _, sr_0_13_0 hR12, sk_0_10 hC, _, sr_0_10_0 hR12, sk_0_17 hC, ?_⟩⟩
  · have := h M12 F
    rwa [List.take_of_length_le c]
  · obtain ⟨r, hr⟩ := lt_some (show k < (rsB b).length by omega)
    refine c_rd (sk_0_17 hC) (sk_0_11 hC) (q_ne hC (by omega)) hL12 h61 hrec.1 hr (Nat.le_refl _) (by omega) (by omega) ?_
    intro f g f2 f3 f4 f5 f6 g0 g1
    refine ⟨fun z => absurd z (by decide), fun _ => ⟨_, sr_0_13_6 hR12, sk_0_17 hC, fun x25 e25 => ⟨_, sr_0_13_6 hR12, sk_0_17 hC, fun x28 e28 x29 e29 => ?_⟩⟩⟩
    rw [vq_J, g1] at e25
    rw [vq_v, f6] at e28
    rw [nI_1] at e29
    subst e25 e28 e29
    refine hag _ _ _ _ ⟨k + 1, by omega, rfl, rfl, by rw [take_s hr, lsO_s], Fr_trans F (Fr_vq _ _ _ _ _ ⟨rfl, rfl⟩)⟩ ?_
    rw [nI_clamp (by omega), nI_clamp (by omega)]; omega
theorem lsO_ne {d e : Int64} : ∀ {rs : List Rc}, rs ≠ [] → lsO d rs = lsO e rs
  | [], h => absurd rfl h
  | c :: cs, _ => rfl
theorem la_fB {f : Nat → Int32} {a : Nat} {b : Bt} (h : Lie f a b) (hn : 61 ≤ b.length) : b_lastOf f a = laB b := by
  unfold b_lastOf laB
  rw [beS_fB h (by omega)]
theorem ba_fB {f : Nat → Int32} {a : Nat} {b : Bt} (h : Lie f a b) (hn : 61 ≤ b.length) : beS f a 8 = baB b := by
  unfold baB
  have := beS_fB (i := 0) (n := 8) h (by omega)
  rwa [Nat.add_zero] at this
theorem c_great {Y : Ly} {q : Nat → Nat → Nat} {nL W nB : Nat} {M : Mm} {Kn : Int64 → Mm → Prop} {b : Bt} {p : Nat} (hC : SC Y q nL W nB) (hR : SR q nL (mR M)) (hL : Lie (mI M (q 0 11)) p b) (hp : p + b.length ≤ nB * 1024) (hb : BatOK b) (h : ∀ M', Fr q (F1 17) M M' → Kn (hiB b) M') : f_X9_greatestOffset Y (q 0 13) (nI p) M Kn := by
  have hd := sdims hC
  obtain ⟨la, hla, hlaB, hrec⟩ := Bat_rec hb
  have h61 := hb.1
  have hlen := hrec.2.2.1
  have n11 := sn_0_11 hC
  unfold f_X9_greatestOffset f_X9_greatestOffset_35 f_X9_greatestOffset_40 f_X9_greatestOffset_69
  refine ⟨sk_0_13 hC, _, sr_0_13_0 hR, sk_0_10 hC, _, sr_0_10_0 hR, ?_⟩
  refine s_countOf (sk_0_11 hC) (by omega) (by omega) ⟨_, sr_0_13_0 hR, sk_0_10 hC, _, sr_0_10_0 hR, s_lastOf (sk_0_11 hC) (by omega) (by omega) ?_⟩
  rw [cnt_fB hL h61, la_fB hL h61, hrec.2.1, hlaB, show (0 : Int32) = nI 0 from rfl, nI_eq (by omega) (by omega), nI_1, nI_eq (by omega) (by omega)]
  have K : (rsB b).length = 0 ∨ (rsB b).length = la + 1 → ∃ b13 : Nat, mR M (q 0 13) 0 = some b13 ∧ (yK Y b13 = 3 ∧ (∃ b15 : Nat, mR M b13 0 = some b15 ∧ (f_X0_baseOf Y b15 (nI p) M (fun r17 M16 => (((1 : Int32) = nI 0 → (f_X9_lastOffsetLeft Y (q 0 13) (nI p) (nI (rsB b).length) M16 (fun r22 M21 => Kn (r17 + r22) M21))) ∧ (¬ ((1 : Int32) = nI 0) → Kn (r17 + (nI la).toInt64) M16)))))) := by
    intro c
    refine ⟨_, sr_0_13_0 hR, sk_0_10 hC, _, sr_0_10_0 hR, s_baseOf (sk_0_11 hC) (by omega) (by omega) ⟨fun z => absurd z (by decide), fun _ => ?_⟩⟩
    rw [ba_fB hL h61]
    have := h M (Fr_refl _ _ _)
    unfold hiB at this
    rw [hlaB] at this
    rcases c with c | c
    · rw [List.length_eq_zero_iff.mp c] at this
      exact this
    · obtain ⟨o, g1, g2, g3⟩ := OfS_ls (d := (nI la).toInt64) hrec.2.2.2.2 (fun z => by rw [z] at c; simp at c)
      rw [g1, show o = la by omega, ← nI_l (by omega)] at this
      exact this
  refine ⟨fun c => K (Or.inl c), fun c => ⟨fun c2 => ?_, fun c2 => K (Or.inr c2)⟩⟩
  refine ⟨_, sr_0_13_0 hR, sk_0_10 hC, _, sr_0_10_0 hR, s_baseOf (sk_0_11 hC) (by omega) (by omega) ⟨fun _ => ?_, fun z => absurd rfl z⟩⟩
  rw [ba_fB hL h61]
  refine c_lastLeft hC hR hL hp hb (fun M' F => ?_)
  have := h M' F
  unfold hiB at this
  rwa [lsO_ne (e := 0) (fun z => by rw [z] at c; exact c rfl)] at this
