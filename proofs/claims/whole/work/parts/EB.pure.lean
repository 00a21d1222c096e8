/-! the model tidies, and lists records -/
def PTd : Nat → Nat → Nat → Prop := fun a b j => a = 20 ∧ ((b = 0 ∧ j = 25) ∨ b = 21 ∨ b = 24 ∨ b = 25)
theorem m_tidyL {Y : Ly} {q : Nat → Nat → Nat} {nL W nB : Nat} {hp ht : Nat} {S : Nat → List Sg} {B : List Bm} {st en : Nat → Int64} {M : Mm} (hC : SC Y q nL W nB) (hM : SM q (mR M)) (hG : Geo nL W nB S) (hLM : LogM q nL W nB M st en S B hp ht) {Kn : Mm → Prop} (h : ∀ M', LogM q nL W nB M' st en S (rt 0 B) (49 - hp) (tl B) → tl B ≤ nB * 1024 → Ef q PTd M M' → Kn M') : f_X12_tidy Y (q 20 0) M Kn := by
  have hd := sdims hC
  have hct := Lnk_count hG hLM.2.2.2.2.2.2.2.2
  have htl := Lnk_tl hG hLM.2.2.2.2.2.2.2.2
  obtain ⟨a1, a4, a5, a6, a7, a8, a9, a10, a11⟩ := hLM
  refine m_tidy hC hM a7 a4 a8 (by omega) (by omega) (by omega) ?_
  intro M' F R hH z0 J z25 hB
  have hp1 := a7.1
  have no : ∀ b, b ≠ 0 → b ≠ 21 → b ≠ 24 → b ≠ 25 → mI M' (q 20 b) = mI M (q 20 b) := fun b h1 h2 h3 h4 => FrM_I hC F (by omega)
  refine h M' ⟨⟨by rw [z0 _ (by decide)]; exact a1.1, by rw [z0 _ (by decide)]; exact a1.2.1, by rw [z0 _ (by decide)]; exact a1.2.2⟩, by rw [z0 _ (by decide), rt_len]; exact a4, z25, by omega, hH, hB, ?_, by rw [J]; exact a10, Lnk_rt a11⟩ htl ?_
  · rw [no 29 (by decide) (by decide) (by decide) (by decide), no 30 (by decide) (by decide) (by decide) (by decide), no 31 (by decide) (by decide) (by decide) (by decide)]; exact a9
  · refine ⟨fun a b j hn => ⟨?_, by rw [J]⟩, F.2, fun f h1 h2 _ => R f h1 h2⟩
    unfold PTd at hn
    by_cases z : a = 20 ∧ b = 0
    · obtain ⟨rfl, rfl⟩ := z
      exact z0 j (by omega)
    · rw [FrM_I hC F (by omega)]
def RecF (f55 f56 f57 f58 f59 : Nat → Int32) (R : List ME) : Prop := ∀ (r : Nat) e, R[r]? = some e → f55 r = nI e.1 ∧ f56 r = nI (mA e.2.1 + rp (rsB (mB e.2.1)) e.2.2.1) ∧ f57 r = nI (mA e.2.1 + rp (rsB (mB e.2.1)) (e.2.2.1 + 1)) ∧ f58 r = nI (mA e.2.1 + rp (rsB (mB e.2.1)) e.2.2.1 + rKa e.2.2.2) ∧ f59 r = (rK e.2.2.2).toInt32
def RecA (q : Nat → Nat → Nat) (M : Mm) (R : List ME) : Prop := RecF (mI M (q 20 55)) (mI M (q 20 56)) (mI M (q 20 57)) (mI M (q 20 58)) (mI M (q 20 59)) R
def GoF (f : Nat → Int32) (P : Nat → ME → Prop) (R : List ME) : Prop := ∀ (r : Nat) e, R[r]? = some e → (f r = 1 ∧ P r e) ∨ (f r = 0 ∧ ¬ P r e)
def tmb (now : Int32) (e : ME) : Prop := ¬ rK e.2.2.2 = -1 ∧ rV e.2.2.2 = -1 ∧ ¬ (now - 1000).toInt64 < ftB (mB e.2.1) + rT e.2.2.2
theorem RecF_s {f55 f56 f57 f58 f59 : Nat → Int32} {R : List ME} {e : ME} (h : RecF f55 f56 f57 f58 f59 R) : RecF (m1 f55 R.length (nI e.1)) (m1 f56 R.length (nI (mA e.2.1 + rp (rsB (mB e.2.1)) e.2.2.1))) (m1 f57 R.length (nI (mA e.2.1 + rp (rsB (mB e.2.1)) (e.2.2.1 + 1)))) (m1 f58 R.length (nI (mA e.2.1 + rp (rsB (mB e.2.1)) e.2.2.1 + rKa e.2.2.2))) (m1 f59 R.length (rK e.2.2.2).toInt32) (R ++ [e]) := by
  intro r e' he
  rcases snoc_get he with ⟨rfl, rfl⟩ | ⟨h1, h2⟩
  · simp only [m1_at]; exact ⟨trivial, trivial, trivial, trivial, trivial⟩
  · rw [m1_nat _ _ (by omega), m1_nat _ _ (by omega), m1_nat _ _ (by omega), m1_nat _ _ (by omega), m1_nat _ _ (by omega)]
    exact h r e' h2
theorem GoF_s {f : Nat → Int32} {P : Nat → ME → Prop} {R : List ME} {e : ME} {v : Int32} (h : GoF f P R) (hv : (v = 1 ∧ P R.length e) ∨ (v = 0 ∧ ¬ P R.length e)) : GoF (m1 f R.length v) P (R ++ [e]) := by
  intro r e' he
  rcases snoc_get he with ⟨rfl, rfl⟩ | ⟨h1, h2⟩
  · rw [m1_at]; exact hv
  · rw [m1_nat _ _ (by omega)]
    exact h r e' h2
theorem KY_len (bs : List Bt) : (KY bs).length = rsN bs := by
  induction bs with
  | nil => rfl
  | cons b bs ih =>
    have e : KY (b :: bs) = (rsB b).zipIdx.map (fun z => kyB b z.2 z.1) ++ KY bs := rfl
    rw [e, List.length_append, ih, List.length_map, List.length_zipIdx]; rfl
theorem mb_app (l : Nat) (x y : List Bm) : mb l (x ++ y) = mb l x ++ mb l y := by unfold mb ofL; rw [List.filter_append, List.map_append]
theorem Rm_len {l i : Nat} {B : List Bm} (hi : i ≤ B.length) : (Rm l (B.take i)).length = rsN (mb l (B.take i)) := by
  rw [← KY_len, ← Rm_KY i hi, List.length_map]
theorem Rm_le {l i : Nat} {B : List Bm} (hi : i ≤ B.length) : (Rm l (B.take i)).length ≤ (Rm l B).length := by
  have e := Rm_len (l := l) (Nat.le_refl B.length)
  rw [List.take_of_length_le (Nat.le_refl _)] at e
  have e2 : mb l B = mb l (B.take i) ++ mb l (B.drop i) := by rw [← mb_app, List.take_append_drop]
  rw [e, Rm_len hi, e2, rsN_app]; omega
theorem Rm_bd {nL W nB l : Nat} {S : Nat → List Sg} {B : List Bm} (hG : Geo nL W nB S) (hOK : LogOK nL S) (hk : Lnk nL S B) (hl : l ≤ nL) (hn : nB ≤ 256) : (Rm l B).length < 40000 := by
  have e := Rm_len (l := l) (Nat.le_refl B.length)
  rw [List.take_of_length_le (Nat.le_refl _), mb_BS hk hl] at e
  have h7 := (rsN_le (hOK l hl)).1
  rw [BS_tot] at h7
  have := Geo_szs hG hl
  omega
theorem rcs_len (i : Nat) (x : Bm) : (rcs i x).length = (rsB (mB x)).length := by unfold rcs; rw [List.length_map, List.length_zipIdx]
theorem rcs_at {i k : Nat} {x : Bm} {c : Rc} (h : (rsB (mB x))[k]? = some c) : (rcs i x)[k]? = some (i, x, k, c) := by
  unfold rcs; rw [List.getElem?_map, zip_get h]; rfl
theorem rcs_of {i k : Nat} {x : Bm} {e : ME} (h : (rcs i x)[k]? = some e) : ∃ c, (rsB (mB x))[k]? = some c ∧ e = (i, x, k, c) := by
  obtain ⟨c, hc⟩ := lt_some (show k < (rsB (mB x)).length by rw [← rcs_len i x]; exact (List.getElem?_eq_some_iff.mp h).1)
  rw [rcs_at hc] at h
  exact ⟨c, hc, (Option.some.inj h).symm⟩
theorem i64_n1 {x : Int64} (h : -1 ≤ x.toInt) : x < 0 ↔ x = -1 := by
  rw [Int64.lt_iff_toInt_lt, ← Int64.toInt_inj]
  have e0 : (0 : Int64).toInt = 0 := by decide
  have e1 : (-1 : Int64).toInt = -1 := by decide
  rw [e0, e1]; omega
def PLs : Nat → Nat → Nat → Prop := fun a b j => a = 20 ∧ ((b = 0 ∧ 41 ≤ j ∧ j ≤ 53) ∨ (55 ≤ b ∧ b ≤ 60))
theorem PLs_LogM {q : Nat → Nat → Nat} {nL W nB : Nat} {M M' : Mm} {st en : Nat → Int64} {S : Nat → List Sg} {B : List Bm} {hp ht : Nat} (h : LogM q nL W nB M st en S B hp ht) (e : EfH q PLs M M') : LogM q nL W nB M' st en S B hp ht := LogM_ef h e (fun a b j h => by unfold PLg at h; unfold PLs; omega)
set_option maxRecDepth 20000 in
theorem m_list {Y : Ly} {q : Nat → Nat → Nat} {nL W nB : Nat} {hp ht : Nat} {S : Nat → List Sg} {B : List Bm} {st en : Nat → Int64} {M : Mm} (hC : SC Y q nL W nB) (hM : SM q (mR M)) (hG : Geo nL W nB S) (hLM : LogM q nL W nB M st en S B hp ht) (hOK : LogOK nL S) {l : Nat} {now : Int32} {Kn : Mm → Prop} (hl : l ≤ nL) (hnow : mI M (q 20 0) 4 = now)
    (h : ∀ M', EfH q PLs M M' → mI M' (q 20 0) 53 = nI (Rm l B).length → RecA q M' (Rm l B) → GoF (mI M' (q 20 60)) (fun _ => tmb now) (Rm l B) → Kn M') : f_X12_list Y (q 20 0) (nI l) M Kn := by
  have hd := sdims hC
  have hct := Lnk_count hG hLM.2.2.2.2.2.2.2.2
  have hbd := Rm_bd hG hOK hLM.2.2.2.2.2.2.2.2 hl hd.2.2.2.2.2
  unfold f_X12_list
  refine ⟨sk_20_0 hC, fun M2 e2 => ?_⟩
  have E2 : EfH q PLs M M2 := EfH_sI hC e2 ⟨rfl, by omega⟩
  refine LOOP2_inv (fun x3 M4 => ∃ i, i ≤ B.length ∧ x3 = nI i ∧ EfH q PLs M M4 ∧ mI M4 (q 20 0) 53 = nI (Rm l (B.take i)).length ∧ RecA q M4 (Rm l (B.take i)) ∧ GoF (mI M4 (q 20 60)) (fun _ => tmb now) (Rm l (B.take i))) (fun x3 _ => B.length - x3.toNatClampNeg) ?_ _ _ ⟨0, by omega, rfl, E2, by rw [e2, mI_sI_self, m1_at]; rfl, (fun r e h => by cases h), (fun r e h => by cases h)⟩
  rintro x3 M4 again ⟨i, hi, rfl, E4, n4, r4, g4⟩ hag
  have hLM4 := PLs_LogM hLM E4
  have hM4 := Ef_SM E4.1 hM
  unfold L_X12_list_7 f_X12_list_180
  rw [hLM4.2.1, nI_cmp (by omega) (by omega)]
  refine ⟨fun c => ?_, fun c => ?_⟩
  · rw [List.take_of_length_le (by omega)] at n4 r4 g4
    exact h M4 E4 n4 r4 g4
  obtain ⟨x, hx⟩ := lt_some (show i < B.length by omega)
  obtain ⟨w1, w2⟩ := m_ol hC hM4 hG hLM4 hx hl
  refine ⟨_, sm_19 hM4, sk_20_20 hC, w1, ?_⟩
  rw [w2]
  have nx : ∀ {M' : Mm} {R : List ME}, R = Rm l (B.take (i + 1)) → EfH q PLs M M' → mI M' (q 20 0) 53 = nI R.length → RecA q M' R → GoF (mI M' (q 20 60)) (fun _ => tmb now) R → ∀ x10, x10 = nI i + 1 → again x10 M' := by
    intro M' R eR E n r g x10 e10
    rw [nI_1] at e10
    subst e10 eR
    exact hag _ _ ⟨i + 1, by omega, rfl, E, n, r, g⟩ (by rw [nI_clamp (by omega), nI_clamp (by omega)]; omega)
  refine ⟨fun c2 => nx (by rw [Rm_s hx, if_neg c2, List.append_nil]) E4 n4 r4 g4, fun c2 => ?_⟩
  have hbx := m_bok hOK hLM hx
  obtain ⟨la, hla, hlaB, hrec⟩ := Bat_rec hbx
  have hcnt := hrec.2.2.1
  have hR1 := Rm_s (l := l) hx
  rw [if_pos c2] at hR1
  have hle := Rm_le (l := l) (B := B) (show i + 1 ≤ B.length by omega)
  rw [hR1, List.length_append, rcs_len] at hle
  refine m_readsB hC hM4 hG hLM4 hx (fun M12 S12 q40 q42 q41 => ?_)
  have E12 : EfH q PLs M M12 := EfH_trans E4 (EfH_mono (EfH_Scr hC S12) (fun a b j z => by unfold P4 at z; unfold PLs; omega))
  have s12 : EfH q P4 M4 M12 := EfH_Scr hC S12
  refine LOOP2_inv (fun x13 M14 => ∃ k R, k ≤ (rsB (mB x)).length ∧ x13 = nI k ∧ R = Rm l (B.take i) ++ (rcs i x).take k ∧ EfH q PLs M M14 ∧ mR M14 (q 20 0) 40 = some (q 20 hp) ∧ mI M14 (q 20 0) 41 = nI (mA x + mN x) ∧ mI M14 (q 20 0) 42 = nI (mA x + rp (rsB (mB x)) k) ∧ mI M14 (q 20 0) 53 = nI R.length ∧ RecA q M14 R ∧ GoF (mI M14 (q 20 60)) (fun _ => tmb now) R) (fun x13 _ => (rsB (mB x)).length - x13.toNatClampNeg) ?_ _ _ ⟨0, Rm l (B.take i), by omega, rfl, by simp, E12, q40, q41, by rw [q42, rp_0], by rw [Ef_i s12.1 (by unfold P4; omega)]; exact n4, by unfold RecA; rw [Ef_I s12.1 (fun j => by unfold P4; omega), Ef_I s12.1 (fun j => by unfold P4; omega), Ef_I s12.1 (fun j => by unfold P4; omega), Ef_I s12.1 (fun j => by unfold P4; omega), Ef_I s12.1 (fun j => by unfold P4; omega)]; exact r4, by rw [Ef_I s12.1 (fun j => by unfold P4; omega)]; exact g4⟩
  rintro x13 M14 ag ⟨k, R, hk, rfl, eR, E14, p40, p41, p42, n14, r14, g14⟩ hag2
  have hLM14 := PLs_LogM hLM E14
  have hM14 := Ef_SM E14.1 hM
  have hRl : R.length = (Rm l (B.take i)).length + k := by rw [eR, List.length_append, List.length_take, rcs_len]; omega
  unfold L_X12_list_32
  refine m_ct hC hM14 hG hLM14 hx ?_
  rw [hrec.2.1, nI_cmp (by omega) (by omega)]
  refine ⟨fun c3 => nx (R := R) ?_ E14 n14 r14 g14, fun c3 => ?_⟩
  · rw [eR, hR1, List.take_of_length_le (show (rcs i x).length ≤ k by rw [rcs_len]; omega)]
  obtain ⟨c, hc⟩ := lt_some (show k < (rsB (mB x)).length by omega)
  refine m_ft hC hM14 hG hLM14 hx (m_rdB hC hM14 hG hLM14 hOK hx hc p40 p41 p42 (fun M20 S20 t40 t41 t46 t42 t49 t51 t47 t48 t50 t52 => ?_))
  have s20 : EfH q P4 M14 M20 := EfH_Scr hC S20
  have n20 : mI M20 (q 20 0) 53 = nI R.length := by rw [Ef_i s20.1 (by unfold P4; omega)]; exact n14
  have hM20 := Ef_SM s20.1 hM14
  have E20 : EfH q PLs M M20 := EfH_trans E14 (EfH_mono s20 (fun a b j z => by unfold P4 at z; unfold PLs; omega))
  have ar : ∀ b, 55 ≤ b → mI M20 (q 20 b) = mI M14 (q 20 b) := fun b hb => Ef_I s20.1 (fun j => by unfold P4; omega)
  have cl : (nI R.length).toNatClampNeg = R.length := nI_clamp (by omega)
  have vin : ∀ b, yN Y b = 40000 → vp_in (nI R.length) (yN Y b) := fun b hb => by rw [hb]; exact vp_in_nI (by omega) (by decide)
  obtain ⟨r1, r2, r3⟩ := rp_at hrec.1 hbx.1 hc
  obtain ⟨d1, d2, d3, d4, d5, d6⟩ := RF_dims r1
  rw [n20, cl]
  refine ⟨q 20 55, sm_54 hM20, sk_20_55 hC, vin _ (sn_20_55 hC), fun M25 e25 => ?_⟩
  have f25 : ∀ b, b ≠ 55 → mI M25 (q 20 b) = mI M20 (q 20 b) := fun b hb => by rw [e25]; exact I_ne hC _ _ (by omega)
  rw [f25 0 (by decide), n20, t46, cl]
  refine ⟨q 20 56, by rw [e25]; exact sm_55 hM20, sk_20_56 hC, vin _ (sn_20_56 hC), fun M29 e29 => ?_⟩
  have f29 : ∀ b, b ≠ 56 → mI M29 (q 20 b) = mI M25 (q 20 b) := fun b hb => by rw [e29]; exact I_ne hC _ _ (by omega)
  rw [f29 0 (by decide), f25 0 (by decide), n20, t42, cl]
  refine ⟨q 20 57, by rw [e29, e25]; exact sm_56 hM20, sk_20_57 hC, vin _ (sn_20_57 hC), fun M33 e33 => ?_⟩
  have f33 : ∀ b, b ≠ 57 → mI M33 (q 20 b) = mI M29 (q 20 b) := fun b hb => by rw [e33]; exact I_ne hC _ _ (by omega)
  rw [f33 0 (by decide), f29 0 (by decide), f25 0 (by decide), n20, t49, cl]
  refine ⟨q 20 58, by rw [e33, e29, e25]; exact sm_57 hM20, sk_20_58 hC, vin _ (sn_20_58 hC), fun M37 e37 => ?_⟩
  have f37 : ∀ b, b ≠ 58 → mI M37 (q 20 b) = mI M33 (q 20 b) := fun b hb => by rw [e37]; exact I_ne hC _ _ (by omega)
  have j37 : mJ M37 = mJ M20 := by rw [e37, e33, e29, e25]; rfl
  rw [f37 0 (by decide), f33 0 (by decide), f29 0 (by decide), f25 0 (by decide), n20, j37, t50, cl]
  refine ⟨q 20 59, by rw [e37, e33, e29, e25]; exact sm_58 hM20, sk_20_59 hC, vin _ (sn_20_59 hC), fun M41 e41 => ?_⟩
  have f41 : ∀ b, b ≠ 59 → mI M41 (q 20 b) = mI M37 (q 20 b) := fun b hb => by rw [e41]; exact I_ne hC _ _ (by omega)
  have j41 : mJ M41 = mJ M20 := by rw [e41]; exact j37
  have z41 : mI M41 (q 20 0) = mI M20 (q 20 0) := by rw [f41 0 (by decide), f37 0 (by decide), f33 0 (by decide), f29 0 (by decide), f25 0 (by decide)]
  have R41 : mR M41 = mR M20 := by rw [e41, e37, e33, e29, e25]; rfl
  refine ⟨q 20 60, by rw [R41]; exact sm_59 hM20, ?_⟩
  have E41 : EfH q PLs M20 M41 := EfH_trans (EfH_sIr hC e25 (fun j => ⟨rfl, by omega⟩)) (EfH_trans (EfH_sIr hC e29 (fun j => ⟨rfl, by omega⟩)) (EfH_trans (EfH_sIr hC e33 (fun j => ⟨rfl, by omega⟩)) (EfH_trans (EfH_sIr hC e37 (fun j => ⟨rfl, by omega⟩)) (EfH_sIr hC e41 (fun j => ⟨rfl, by omega⟩)))))
  have t4 : mI M41 (q 20 0) 4 = now := by rw [z41, Ef_i E20.1 (by unfold PLs; omega)]; exact hnow
  have rec41 : RecA q M41 (R ++ [(i, x, k, c)]) := by
    have := RecF_s (e := (i, x, k, c)) r14
    unfold RecA
    rw [f41 55 (by decide), f37 55 (by decide), f33 55 (by decide), f29 55 (by decide), show mI M25 (q 20 55) = m1 (mI M14 (q 20 55)) R.length (nI i) from by rw [e25, mI_sI_self, ar 55 (by decide)]]
    rw [f41 56 (by decide), f37 56 (by decide), f33 56 (by decide), show mI M29 (q 20 56) = m1 (mI M14 (q 20 56)) R.length (nI (mA x + rp (rsB (mB x)) k)) from by rw [e29, mI_sI_self, f25 56 (by decide), ar 56 (by decide)]]
    rw [f41 57 (by decide), f37 57 (by decide), show mI M33 (q 20 57) = m1 (mI M14 (q 20 57)) R.length (nI (mA x + rp (rsB (mB x)) (k + 1))) from by rw [e33, mI_sI_self, f29 57 (by decide), f25 57 (by decide), ar 57 (by decide)]]
    rw [f41 58 (by decide), show mI M37 (q 20 58) = m1 (mI M14 (q 20 58)) R.length (nI (mA x + rp (rsB (mB x)) k + rKa c)) from by rw [e37, mI_sI_self, f33 58 (by decide), f29 58 (by decide), f25 58 (by decide), ar 58 (by decide)]]
    rw [show mI M41 (q 20 59) = m1 (mI M14 (q 20 59)) R.length (rK c).toInt32 from by rw [e41, mI_sI_self, f37 59 (by decide), f33 59 (by decide), f29 59 (by decide), f25 59 (by decide), ar 59 (by decide)]]
    exact this
  have g60 : mI M41 (q 20 60) = mI M14 (q 20 60) := by rw [f41 60 (by decide), f37 60 (by decide), f33 60 (by decide), f29 60 (by decide), f25 60 (by decide), ar 60 (by decide)]
  have stp : ∀ v : Int32, bz v → ((v = 1 ∧ tmb now (i, x, k, c)) ∨ (v = 0 ∧ ¬ tmb now (i, x, k, c))) → f_X12_list_163 Y (q 20 0) (nI k) ag M41 (q 20 60) v := by
    intro v hv hg
    unfold f_X12_list_163
    rw [z41, n20, cl]
    refine ⟨sk_20_60 hC, vin _ (sn_20_60 hC), hv, fun M47 e47 M48 e48 x49 e49 => ?_⟩
    have f47 : ∀ b, b ≠ 60 → mI M47 (q 20 b) = mI M41 (q 20 b) := fun b hb => by rw [e47]; exact I_ne hC _ _ (by omega)
    have e48' : M48 = sI M47 (q 20 0) (m1 (mI M47 (q 20 0)) 53 (nI (R.length + 1))) := by rw [e48, f47 0 (by decide), z41, n20, nI_1]
    have f48 : ∀ b, b ≠ 0 → mI M48 (q 20 b) = mI M47 (q 20 b) := fun b hb => by rw [e48]; exact I_ne hC _ _ (by omega)
    have o48 : ∀ j, j ≠ 53 → mI M48 (q 20 0) j = mI M20 (q 20 0) j := fun j hj => by rw [e48', mI_sI_self, m1_nat _ _ hj, f47 0 (by decide), z41]
    have R48 : mR M48 = mR M20 := by rw [e48, e47]; exact R41
    rw [nI_1] at e49
    subst e49
    refine hag2 _ _ ⟨k + 1, R ++ [(i, x, k, c)], by omega, rfl, ?_, ?_, by rw [R48]; exact t40, by rw [o48 41 (by decide)]; exact t41, by rw [o48 42 (by decide)]; exact t42, by rw [e48', mI_sI_self, m1_at, List.length_append, List.length_singleton], ?_, ?_⟩ (by rw [nI_clamp (by omega), nI_clamp (by omega)]; omega)
    · rw [take_s (rcs_at hc), ← List.append_assoc, ← eR]
    · exact EfH_trans E20 (EfH_trans E41 (EfH_trans (EfH_sIr hC e47 (fun j => ⟨rfl, by omega⟩)) (EfH_sI hC e48' ⟨rfl, by omega⟩)))
    · unfold RecA
      rw [f48 55 (by decide), f48 56 (by decide), f48 57 (by decide), f48 58 (by decide), f48 59 (by decide), f47 55 (by decide), f47 56 (by decide), f47 57 (by decide), f47 58 (by decide), f47 59 (by decide)]
      exact rec41
    · rw [f48 60 (by decide), e47, mI_sI_self, g60]
      exact GoF_s g14 hg
  unfold f_X12_list_162
  rw [j41, t50, t52, t47, t4, i64_n1 d3]
  refine ⟨fun c4 => stp 0 (Or.inl rfl) (Or.inr ⟨rfl, fun z => z.1 c4⟩), fun c4 => ⟨fun c5 => stp 0 (Or.inl rfl) (Or.inr ⟨rfl, fun z => ?_⟩), fun c5 => ⟨fun c6 => stp 0 (Or.inl rfl) (Or.inr ⟨rfl, fun z => z.2.2 c6⟩), fun c6 => stp 1 (Or.inr rfl) (Or.inl ⟨rfl, c4, ?_, c6⟩)⟩⟩⟩
  · have := z.2.1
    rw [← i64_n1 d4] at this
    exact Int64.not_lt.mpr c5 this
  · rw [← i64_n1 d4]; exact Int64.not_le.mp c5
