/-! the model strips all closed batches -/
def NwA (q : Nat → Nat → Nat) (M : Mm) (hp ht l : Nat) (B : List Bm) (Sl : List Sg) (now : Int32) (n : Nat) : Prop := ∀ i x, i < n → B[i]? = some x → clo Sl l x → ∃ a y, (PS Sl)[jx l B i]? = some y ∧ mI M (q 20 63) i = nI a ∧ mI M (q 20 64) i = nI (olen (kop (aq (PS Sl)) now (BS Sl) y (jx l B i))) ∧ Lie (mI M (q 20 hp)) a (m8 (kbt (aq (PS Sl)) now y.1 (mB x))) ∧ a + (kbt (aq (PS Sl)) now y.1 (mB x)).length ≤ ht
theorem rsN_tk {bs : List Bt} {i : Nat} {b : Bt} (h : bs[i]? = some b) : rsN (bs.take (i + 1)) = rsN (bs.take i) + (rsB b).length := by
  rw [take_s h, rsN_app]; simp [rsN]
set_option maxRecDepth 20000 in
theorem m_strips {Y : Ly} {q : Nat → Nat → Nat} {nL W nB : Nat} {hp ht : Nat} {S : Nat → List Sg} {B : List Bm} {st en : Nat → Int64} {M : Mm} (hC : SC Y q nL W nB) (hM : SM q (mR M)) (hG : Geo nL W nB S) (hLM : LogM q nL W nB M st en S B hp ht) (hOK : LogOK nL S) {l g : Nat} {Sc : List Sg} {os : List (Option Bt)} {now : Int32} {Kn : Int32 → Mm → Prop} (hl : l ≤ nL) (hS : ScO (S l) Sc) (eos : os = koz (aq (PS (S l))) now (BS (S l)) (PS Sc)) (hht : ht ≤ nB * 1024) (h53 : mI M (q 20 0) 53 = nI (Rm l B).length) (hrec : RecA q M (Rm l B)) (hgo : GoF (mI M (q 20 60)) (fun r e => (tmb now e ∨ dm ((Rm l B).map kyE) r) ∧ clo (S l) l e.2.1) (Rm l B))
    (h : ∀ M' ht', EfH q PSp M M' → LogM q nL W nB M' st en S B hp ht' → NwA q M' hp ht' l B (S l) now B.length → ((¬ (nI g + nI (lsz os)) = 0 → (f_X12_plan Y (q 20 0) (nI l) M' (fun r19 M18 => ((¬ r19 = 0 → (∃ n, LOOP3 (L_X12_compact_164 Y (q 20 0) (nI l) Kn (nI g)) n 1 0 M18)) ∧ (r19 = 0 → (Kn (-2) M18)))))) ∧ ((nI g + nI (lsz os)) = 0 → (Kn 0 M')))) : ∃ n, LOOP4 (L_X12_compact_83 Y (q 20 0) (nI l) Kn (nI g)) n 0 0 0 M := by
  have hd := sdims hC
  have hlk := hLM.2.2.2.2.2.2.2.2
  have hct := Lnk_count hG hlk
  have hbd := Rm_bd hG hOK hlk hl hd.2.2.2.2.2
  obtain ⟨hle1, hle2⟩ := ScO_le hS
  have hBt : tot (BS (S l)) ≤ nB * 1024 := by rw [BS_tot]; exact Geo_szs hG hl
  have hosl : os.length = (PS Sc).length := by rw [eos, koz_len]
  have hgc := Geo_count hG hl
  rw [PS_len] at hgc
  have hPl : (PS Sc).length = (BS Sc).length := PS_len Sc
  have hrN : rsN (BS (S l)) = (Rm l B).length := by
    have := Rm_len (l := l) (Nat.le_refl B.length)
    rw [List.take_of_length_le (Nat.le_refl _), mb_BS hlk hl] at this
    exact this.symm
  have hsub : ∀ n, n ≤ (BS Sc).length → (BS Sc).take n = (BS (S l)).take n := fun n hn => by
    rcases hS with ⟨so, hS⟩ | ⟨h1, h2⟩
    · rw [hS, BS_app, List.take_append_of_le_length hn]
    · rw [h1, h2]
  have hrs : ∀ n, rsN ((BS Sc).take n) ≤ (Rm l B).length := fun n => by
    by_cases z : n ≤ (BS Sc).length
    · rw [hsub n z, ← hrN]
      have : BS (S l) = (BS (S l)).take n ++ (BS (S l)).drop n := (List.take_append_drop _ _).symm
      conv => rhs; rw [this]
      rw [rsN_app]; omega
    · rw [List.take_of_length_le (by omega), ← List.take_length (l := BS Sc), hsub _ (Nat.le_refl _), ← hrN]
      have : BS (S l) = (BS (S l)).take (BS Sc).length ++ (BS (S l)).drop (BS Sc).length := (List.take_append_drop _ _).symm
      conv => rhs; rw [this]
      rw [rsN_app]; omega
  refine LOOP4_inv (fun x12 x13 x14 M15 => ∃ i ht', i ≤ B.length ∧ x14 = nI i ∧ x12 = nI (lsz (os.take (jx l B i))) ∧ x13 = nI (rsN ((BS Sc).take (jx l B i))) ∧ EfH q PSp M M15 ∧ LogM q nL W nB M15 st en S B hp ht' ∧ ht' ≤ ht + tot ((BS Sc).take (jx l B i)) ∧ NwA q M15 hp ht' l B (S l) now i) (fun _ _ x14 _ => B.length - x14.toNatClampNeg) ?_ _ _ _ _ ⟨0, ht, by omega, rfl, by rw [show jx l B 0 = 0 from by simp [jx, mb, ofL]]; rfl, by rw [show jx l B 0 = 0 from by simp [jx, mb, ofL]]; rfl, EfH_refl _ _ _, hLM, by omega, fun i x hi => absurd hi (by omega)⟩
  rintro x12 x13 x14 M15 again ⟨i, ht', hi, rfl, rfl, rfl, E15, hLM15, hh, nw⟩ hag
  have hM15 := Ef_SM E15.1 hM
  have hlt : lsz (os.take (jx l B i)) ≤ os.length := Nat.le_trans (lsz_le _) (by rw [List.length_take]; omega)
  have hr1 := hrs (jx l B i)
  unfold L_X12_compact_83 f_X12_compact_133
  rw [hLM15.2.1, nI_cmp (by omega) (by omega)]
  refine ⟨fun c => ?_, fun c => ?_⟩
  · have ei : i = B.length := by omega
    subst ei
    rw [jx_all hlk hl, List.take_of_length_le (show os.length ≤ (BS (S l)).length by omega)]
    exact h M15 ht' E15 hLM15 nw
  obtain ⟨x, hx⟩ := lt_some (show i < B.length by omega)
  have hci := clo_ix hG hl hd.2.2.1 hlk hS hx
  refine m_isClosed hC hM15 hG hLM15 hl hx (fun hc => ⟨fun z => absurd z (by decide), fun _ => ?_⟩) (fun hc => ⟨fun _ x44 e44 => ?_, fun z => absurd rfl z⟩)
  rotate_left
  · rw [nI_1] at e44
    subst e44
    have ej : ∀ {α : Type} (xs : List α), xs.length = (BS Sc).length → xs.take (jx l B (i + 1)) = xs.take (jx l B i) := by
      intro α xs hxs
      rw [jx_s hx]
      by_cases z : mL x = l
      · rw [if_pos z]
        have : ¬ jx l B i < (BS Sc).length := fun w => hc (hci.mpr ⟨z, w⟩)
        rw [List.take_of_length_le (by omega), List.take_of_length_le (by omega)]
      · rw [if_neg z, Nat.add_zero]
    refine hag _ _ _ _ ⟨i + 1, ht', by omega, rfl, by rw [ej os (by omega)], by rw [ej (BS Sc) rfl], E15, hLM15, by rw [ej (BS Sc) rfl]; exact hh, fun i' x' hi' hx' hc' => ?_⟩ (by rw [nI_clamp (by omega), nI_clamp (by omega)]; omega)
    by_cases e : i' = i
    · subst e
      rw [hx] at hx'; cases hx'
      exact absurd hc' hc
    · exact nw i' x' (by omega) hx' hc'
  obtain ⟨hxl, hj⟩ := hci.mp hc
  obtain ⟨y, hy, ey, hyc⟩ := PS_y (W := W) (nB := nB) hlk hl hS hx hxl
  have hyc := hyc hj
  have hBi : (BS Sc)[jx l B i]? = some (mB x) := by rw [← PS_snd, List.getElem?_map, hyc, ← ey]; rfl
  have hoi := koz_at (Q := aq (PS (S l))) (now := now) (xs := BS (S l)) hyc
  rw [← eos] at hoi
  have hbx := m_bok hOK hLM hx
  have erR : rsN ((BS Sc).take (jx l B i)) = (Rm l (B.take i)).length := by
    rw [Rm_len hi, hsub _ (by omega)]
    have := (mb_take hx hxl).2
    rw [mb_BS hlk hl] at this
    show rsN ((BS (S l)).take (mb l (B.take i)).length) = _
    rw [this]
  have recs : RecA q M15 (Rm l B) := by
    unfold RecA
    rw [Ef_I E15.1 (fun j => by unfold PSp; omega), Ef_I E15.1 (fun j => by unfold PSp; omega), Ef_I E15.1 (fun j => by unfold PSp; omega), Ef_I E15.1 (fun j => by unfold PSp; omega), Ef_I E15.1 (fun j => by unfold PSp; omega)]
    exact hrec
  have htk := tot_mono (BS Sc) (jx l B i + 1)
  rw [tot_take hBi] at htk
  have hmN : mN x = (mB x).length := rfl
  rw [erR]
  refine m_strip hC hM15 hG hLM15 hOK hl hx hc hy (by rw [Ef_i E15.1 (by unfold PSp; omega)]; exact h53) recs (by rw [Ef_I E15.1 (fun j => by unfold PSp; omega)]; exact hgo) (by omega) (fun M46 o eo E46 hLM46 lo46 lie46 n46 l46 => ?_)
  intro x48 e48
  have hM46 := Ef_SM E46.1 hM15
  have eo' : o = kop (aq (PS (S l))) now (BS (S l)) y (jx l B i) := eo
  rw [← eo'] at hoi
  have hkl := kbt_len (Q := aq (PS (S l))) (now := now) (p := y.1) hbx
  have hnr : (rsB (mB x)).length ≤ 1000 := by obtain ⟨la, -, -, hr⟩ := Bat_rec hbx; exact hr.2.2.1
  have jS : jx l B (i + 1) = jx l B i + 1 := by rw [jx_s hx, if_pos hxl]
  refine ⟨_, sm_63 hM46, sk_20_64 hC, by rw [sn_20_64 hC]; exact vp_in_nI (by omega) (by decide), ?_⟩
  rw [nI_clamp (by omega), l46, m1_at]
  have olb : olen o < 2 ^ 31 := by
    cases o with
    | none => show 0 < _; decide
    | some b' =>
      have hb' : BatOK y.2 := by rw [ey]; exact hbx
      have := kop_len hb' eo'.symm
      have h16 := hb'.2.1
      show b'.length < _; omega
  rw [nIeq (x := 0) (b := 0) rfl olb (by decide)]
  have nw' : NwA q M46 hp (ht' + (kbt (aq (PS (S l))) now y.1 (mB x)).length) l B (S l) now (i + 1) := by
    intro i' x' hi' hx' hc'
    by_cases e : i' = i
    · subst e
      rw [hx] at hx'
      have hx' : x = x' := Option.some.inj hx'
      subst hx'
      exact ⟨ht', y, hy, by rw [n46, m1_at], by rw [l46, m1_at, eo'], lie46, Nat.le_refl _⟩
    · obtain ⟨a, y', w1, w2, w3, w4, w5⟩ := nw i' x' (by omega) hx' hc'
      refine ⟨a, y', w1, by rw [n46, m1_nat _ _ e]; exact w2, by rw [l46, m1_nat _ _ e]; exact w3, Lie_same w4 (fun j h1 h2 => lo46 j (by rw [m8_len] at h2; omega)), by omega⟩
  have go : ∀ y52 : Int32, y52 = (if o = none then 1 else 0) → f_X12_compact_131 Y (nI (lsz (os.take (jx l B i)))) (nI i) again M46 x48 y52 := by
    intro y52 e52
    unfold f_X12_compact_131 f_X12_compact_133
    intro x53 e53 x44 e44
    rw [nI_1] at e44
    subst e44
    have e48' : x48 = nI (rsN ((BS Sc).take (jx l B (i + 1)))) := by rw [e48, nI_add, jS, rsN_tk hBi, erR]
    have e53' : x53 = nI (lsz (os.take (jx l B (i + 1)))) := by
      rw [jS, lsz_s hoi, e53, e52]
      by_cases z : o = none
      · rw [if_pos z, if_pos z, nI_1]
      · rw [if_neg z, if_neg z, Int32.add_zero, Nat.add_zero]
    refine hag _ _ _ _ ⟨i + 1, ht' + (kbt (aq (PS (S l))) now y.1 (mB x)).length, by omega, rfl, e53', e48', EfH_trans E15 E46, hLM46, ?_, nw'⟩ (by rw [nI_clamp (by omega), nI_clamp (by omega)]; omega)
    rw [jS, tot_take hBi]
    omega
  refine ⟨fun z => go 0 ?_, fun z => go 1 ?_⟩
  · cases o with
    | none => exact absurd rfl z
    | some b' => rw [if_neg (fun w => by cases w)]
  · cases o with
    | none => rw [if_pos rfl]
    | some b' =>
      exfalso
      have hb' : BatOK y.2 := by rw [ey]; exact hbx
      have := (kop_len hb' eo'.symm).2.1
      have z : b'.length = 0 := z
      omega
