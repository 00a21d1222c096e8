/-! the model plans -/
def PPl : Nat → Nat → Nat → Prop := fun a b j => a = 20 ∧ ((b = 0 ∧ j = 64) ∨ b = 32 ∨ b = 66 ∨ b = 67)
theorem PPl_LogM {q : Nat → Nat → Nat} {nL W nB : Nat} {M M' : Mm} {st en : Nat → Int64} {S : Nat → List Sg} {B : List Bm} {hp ht : Nat} (h : LogM q nL W nB M st en S B hp ht) (e : EfH q PPl M M') : LogM q nL W nB M' st en S B hp ht := LogM_ef h e (fun a b j h => by unfold PLg at h; unfold PPl; omega)
def PLA (q : Nat → Nat → Nat) (M : Mm) (ks : List Nat) (X : List (List Bt)) : Prop := mI M (q 20 0) 64 = nI X.length ∧ ks.length = X.length ∧ Ar (mI M (q 20 66)) ks ∧ Ar (mI M (q 20 67)) (X.map tot)
set_option maxRecDepth 20000 in
theorem m_plan {Y : Ly} {q : Nat → Nat → Nat} {nL W nB : Nat} {hp ht : Nat} {S : Nat → List Sg} {B : List Bm} {st en : Nat → Int64} {M : Mm} (hC : SC Y q nL W nB) (hM : SM q (mR M)) (hG : Geo nL W nB S) (hLM : LogM q nL W nB M st en S B hp ht) (hOK : LogOK nL S) {l : Nat} {Sc : List Sg} {os : List (Option Bt)} {now : Int32} {Kn : Int32 → Mm → Prop} (hl : l ≤ nL) (hS : ScO (S l) Sc) (eos : os = koz (aq (PS (S l))) now (BS (S l)) (PS Sc)) (hnw : NwA q M hp ht l B (S l) now B.length) (hI : ∀ n, PkI W (pkf W [] (os.take n))) (h59 : (pkf W [] os).length ≤ 59)
    (h1 : ∀ M' ks, EfH q PPl M M' → Rms (nL + 2) W nB (FFs S (nL + 1)) ks → PLA q M' ks (pkf W [] os) → Kn 1 M') (h0 : ∀ M', EfH q PPl M M' → RmN (nL + 2) W nB (FFs S (nL + 1)) (pkf W [] os).length → Kn 0 M') : f_X12_plan Y (q 20 0) (nI l) M Kn := by
  have hd := sdims hC
  have hlk := hLM.2.2.2.2.2.2.2.2
  have hct := Lnk_count hG hlk
  obtain ⟨hle1, hle2⟩ := ScO_le hS
  have hosl : os.length = (BS Sc).length := by rw [eos, koz_len, PS_len]
  have hW : W * 1024 ≤ 16 * 1024 := Nat.mul_le_mul_right _ hd.2.2.2.1
  have hcv0 := hG.2
  unfold f_X12_plan
  refine ⟨sk_20_0 hC, m_mark hC hM hLM.1.1 hLM.1.2.1 hLM.1.2.2 hG hLM.2.2.2.2.2.2.1 (fun u hu M3 e3 => ?_)⟩
  have e3' : M3 = sI (sI M (q 20 32) u) (q 20 0) (m1 (mI (sI M (q 20 32) u) (q 20 0)) 64 0) := e3
  have E3 : EfH q PPl M M3 := EfH_trans (EfH_sIr hC (a := 20) (b := 32) (f := u) rfl (fun j => ⟨rfl, by omega⟩)) (EfH_sI hC e3' ⟨rfl, by omega⟩)
  have j0 : jx l B 0 = 0 := by simp [jx, mb, ofL]
  refine LOOP2_inv (fun x4 M5 => ∃ i ks, i ≤ B.length ∧ x4 = nI i ∧ EfH q PPl M M5 ∧ Rms (nL + 2) W nB (FFs S (nL + 1)) ks ∧ HdR (mI M5 (q 20 32)) nL W nB (FFs S (nL + 1) ++ ks) ∧ PLA q M5 ks (pkf W [] (os.take (jx l B i)))) (fun x4 _ => B.length - x4.toNatClampNeg) ?_ _ _ ⟨0, [], by omega, rfl, E3, Rms_0 _ _ _ _, by rw [List.append_nil, e3, I_ne hC _ _ (by omega), mI_sI_self]; exact hu, by rw [j0]; exact ⟨by rw [e3, mI_sI_self, m1_at]; rfl, rfl, Ar_nil _, Ar_nil _⟩⟩
  rintro x4 M5 again ⟨i, ks, hi, rfl, E5, hr, hh, hp5⟩ hag
  have hLM5 := PPl_LogM hLM E5
  have hM5 := Ef_SM E5.1 hM
  unfold L_X12_plan_11
  rw [hLM5.2.1, nI_cmp (by omega) (by omega)]
  refine ⟨fun c => ⟨Or.inr rfl, ?_⟩, fun c => ?_⟩
  · have ei : i = B.length := by omega
    subst ei
    rw [jx_all hlk hl, List.take_of_length_le (by omega)] at hp5
    exact h1 M5 ks E5 hr hp5
  obtain ⟨x, hx⟩ := lt_some (show i < B.length by omega)
  have hci := clo_ix hG hl hd.2.2.1 hlk hS hx
  have nx : ∀ (M' : Mm) (ks' : List Nat), EfH q PPl M M' → Rms (nL + 2) W nB (FFs S (nL + 1)) ks' → HdR (mI M' (q 20 32)) nL W nB (FFs S (nL + 1) ++ ks') → PLA q M' ks' (pkf W [] (os.take (jx l B (i + 1)))) → f_X12_plan_139 Y (nI i) again M' := by
    intro M' ks' E' r' h' p'
    unfold f_X12_plan_139
    intro x10 e10
    rw [nI_1] at e10
    subst e10
    exact hag _ _ ⟨i + 1, ks', by omega, rfl, E', r', h', p'⟩ (by rw [nI_clamp (by omega), nI_clamp (by omega)]; omega)
  refine m_isClosed hC hM5 hG hLM5 hl hx (fun hc => ⟨fun z => absurd z (by decide), fun _ => ?_⟩) (fun hc => ⟨fun _ => ?_, fun z => absurd rfl z⟩)
  rotate_left
  · refine nx M5 ks E5 hr hh ?_
    have ej : os.take (jx l B (i + 1)) = os.take (jx l B i) := by
      rw [jx_s hx]
      by_cases z : mL x = l
      · rw [if_pos z]
        have : ¬ jx l B i < (BS Sc).length := fun w => hc (hci.mpr ⟨z, w⟩)
        rw [List.take_of_length_le (by omega), List.take_of_length_le (by omega)]
      · rw [if_neg z, Nat.add_zero]
    rw [ej]; exact hp5
  obtain ⟨hxl, hj⟩ := hci.mp hc
  obtain ⟨a, y, w1, w2, w3, w4, w5⟩ := hnw i x (by omega) hx hc
  obtain ⟨y', hy', ey, hyc⟩ := PS_y (W := W) (nB := nB) hlk hl hS hx hxl
  rw [w1] at hy'
  have hyy : y = y' := Option.some.inj hy'
  subst hyy
  have hoi := koz_at (Q := aq (PS (S l))) (now := now) (xs := BS (S l)) (hyc hj)
  rw [← eos] at hoi
  have jS : jx l B (i + 1) = jx l B i + 1 := by rw [jx_s hx, if_pos hxl]
  have hbx : BatOK y.2 := by rw [ey]; exact m_bok hOK hLM hx
  have w3' : mI M5 (q 20 64) i = nI (olen (kop (aq (PS (S l))) now (BS (S l)) y (jx l B i))) := by rw [Ef_I E5.1 (fun j => by unfold PPl; omega)]; exact w3
  have vin : vp_in (nI i) (yN Y (q 20 64)) := by rw [sn_20_64 hC]; exact vp_in_nI (by omega) (by decide)
  have ci : (nI i).toNatClampNeg = i := nI_clamp (by omega)
  refine ⟨_, sm_63 hM5, sk_20_64 hC, vin, ?_⟩
  rw [ci, w3']
  cases eo : kop (aq (PS (S l))) now (BS (S l)) y (jx l B i) with
  | none =>
    rw [eo] at hoi
    show (nI 0 ≤ 0 → _) ∧ (¬ nI 0 ≤ 0 → _)
    refine ⟨fun _ => nx M5 ks E5 hr hh ?_, fun z => absurd (by decide) z⟩
    rw [jS, pkf_s hoi]; exact hp5
  | some b' =>
    rw [eo] at hoi w3'
    obtain ⟨eb, hb61, hbl⟩ := kop_len hbx eo
    have h16 := hbx.2.1
    show (nI b'.length ≤ 0 → _) ∧ (¬ nI b'.length ≤ 0 → _)
    have hX1 : pkf W [] (os.take (jx l B (i + 1))) = pks W (pkf W [] (os.take (jx l B i))) b' := by rw [jS, pkf_s hoi]; rfl
    have hXl : (pks W (pkf W [] (os.take (jx l B i))) b').length ≤ (pkf W [] os).length := by rw [← hX1]; exact pkf_tk W [] os _
    have hIi := hI (jx l B i)
    have hpl := pks_len W (pkf W [] (os.take (jx l B i))) b'
    obtain ⟨X, eX⟩ : ∃ X, X = pkf W [] (os.take (jx l B i)) := ⟨_, rfl⟩
    rw [← eX] at hp5 hX1 hXl hIi hpl
    obtain ⟨p1, p2, p3, p4⟩ := hp5
    -- into the last segment
    have last : ∀ (M16 : Mm) (ks' : List Nat) (X0 : List (List Bt)) (g : List Bt), EfH q PPl M M16 → Rms (nL + 2) W nB (FFs S (nL + 1)) ks' → HdR (mI M16 (q 20 32)) nL W nB (FFs S (nL + 1) ++ ks') → PLA q M16 ks' (X0 ++ [g]) → X0.length < 60 → pks W X b' = X0 ++ [g ++ [b']] → tot g ≤ W * 1024 → f_X12_plan_119 Y (q 20 0) (nI i) again M16 := by
      intro M16 ks' X0 g E16 r16 h16' ⟨q1, q2, q3, q4⟩ hX0 ep hg
      have hM16 := Ef_SM E16.1 hM
      unfold f_X12_plan_119
      rw [List.length_append, List.length_singleton] at q1
      simp only [List.map_append, List.map_cons, List.map_nil] at q4
      have e67 := Ar_last q4
      rw [List.length_map] at e67
      rw [q1, nI_pred, nI_clamp (by omega), ci]
      have v67 : vp_in (nI X0.length) (yN Y (q 20 67)) := by rw [sn_20_67 hC]; exact vp_in_nI hX0 (by decide)
      refine ⟨_, sm_66 hM16, sk_20_67 hC, v67, _, sm_63 hM16, sk_20_64 hC, vin, v67, fun M24 e24 => ?_⟩
      have l16 : mI M16 (q 20 64) i = nI b'.length := by rw [Ef_I E16.1 (fun j => by unfold PPl; omega), w3, eo]; rfl
      rw [e67, l16, nI_add] at e24
      have o24 : ∀ c, c ≠ 67 → mI M24 (q 20 c) = mI M16 (q 20 c) := fun c hc => by rw [e24]; exact I_ne hC _ _ (by omega)
      refine nx M24 ks' (EfH_trans E16 (EfH_sIr hC e24 (fun j => ⟨rfl, by omega⟩))) r16 (by rw [o24 32 (by decide)]; exact h16') ?_
      rw [hX1, ep]
      refine ⟨by rw [o24 0 (by decide), q1, List.length_append, List.length_singleton], by rw [q2, List.length_append, List.length_append]; rfl, by rw [o24 66 (by decide)]; exact q3, ?_⟩
      rw [e24, mI_sI_self]
      simp only [List.map_append, List.map_cons, List.map_nil, tot_s]
      have := Ar_set q4 (tot g + b'.length)
      rwa [List.length_map] at this
    -- a new segment
    have newS : X.length < 60 → pks W X b' = X ++ [[b']] → f_X12_plan_73 Y (q 20 0) Kn (nI i) again M5 := by
      intro hX60 ep
      unfold f_X12_plan_73
      have hXs : ks.length < (pkf W [] os).length := by rw [ep, List.length_append, List.length_singleton] at hXl; omega
      refine m_place hC hM5 hLM5.1.1 hLM5.1.2.1 hLM5.1.2.2 hh (fun k hL => ⟨fun _ => ?_, fun z => absurd (nI_ge0 (by have := hL.2.1; omega)) z⟩) (fun hN => ⟨fun z => absurd z (by decide), fun _ => ⟨Or.inl rfl, h0 M5 E5 ⟨ks, hXs, hr, hN⟩⟩⟩)
      refine m_hold hC hM5 hLM5.1.2.1 hL.2.1 hh (fun u2 hu2 => ?_)
      obtain ⟨M28, e28⟩ : ∃ M28, M28 = sI M5 (q 20 32) u2 := ⟨_, rfl⟩
      rw [← e28]
      have o28 : ∀ c, c ≠ 32 → mI M28 (q 20 c) = mI M5 (q 20 c) := fun c hc => by rw [e28]; exact I_ne hC _ _ (by omega)
      have R28 : mR M28 = mR M5 := by rw [e28]; rfl
      have v66 : vp_in (nI X.length) (yN Y (q 20 66)) := by rw [sn_20_66 hC]; exact vp_in_nI hX60 (by decide)
      have v67 : vp_in (nI X.length) (yN Y (q 20 67)) := by rw [sn_20_67 hC]; exact vp_in_nI hX60 (by decide)
      have cX : (nI X.length).toNatClampNeg = X.length := nI_clamp (by omega)
      rw [o28 0 (by decide), p1, cX]
      refine ⟨q 20 66, by rw [R28]; exact sm_65 hM5, sk_20_66 hC, v66, fun M32 e32 => ?_⟩
      have o32 : ∀ c, c ≠ 66 → mI M32 (q 20 c) = mI M28 (q 20 c) := fun c hc => by rw [e32]; exact I_ne hC _ _ (by omega)
      rw [o32 0 (by decide), o28 0 (by decide), p1, cX]
      refine ⟨q 20 67, by rw [e32]; show mR M28 (q 20 0) 66 = _; rw [R28]; exact sm_66 hM5, sk_20_67 hC, v67, fun M36 e36 M37 e37 => ?_⟩
      have o36 : ∀ c, c ≠ 67 → mI M36 (q 20 c) = mI M32 (q 20 c) := fun c hc => by rw [e36]; exact I_ne hC _ _ (by omega)
      have e37' : M37 = sI M36 (q 20 0) (m1 (mI M36 (q 20 0)) 64 (nI (X.length + 1))) := by rw [e37, o36 0 (by decide), o32 0 (by decide), o28 0 (by decide), p1, nI_1]
      have o37 : ∀ c, c ≠ 0 → mI M37 (q 20 c) = mI M36 (q 20 c) := fun c hc => by rw [e37]; exact I_ne hC _ _ (by omega)
      have E37 : EfH q PPl M M37 := EfH_trans E5 (EfH_trans (EfH_sIr hC e28 (fun j => ⟨rfl, by omega⟩)) (EfH_trans (EfH_sIr hC e32 (fun j => ⟨rfl, by omega⟩)) (EfH_trans (EfH_sIr hC e36 (fun j => ⟨rfl, by omega⟩)) (EfH_sI hC e37' ⟨rfl, by omega⟩))))
      refine last M37 (ks ++ [k]) X [] E37 (Rms_s hr hL) ?_ ⟨?_, ?_, ?_, ?_⟩ hX60 ep (Nat.zero_le _)
      · rw [o37 32 (by decide), o36 32 (by decide), o32 32 (by decide), e28, mI_sI_self, ← List.append_assoc]; exact hu2
      · rw [e37', mI_sI_self, m1_at, List.length_append, List.length_singleton]
      · rw [List.length_append, List.length_append, p2]; rfl
      · rw [o37 66 (by decide), o36 66 (by decide), e32, mI_sI_self, o28 66 (by decide), ← p2]
        exact Ar_snoc p3 k
      · rw [o37 67 (by decide), e36, mI_sI_self, o32 67 (by decide), o28 67 (by decide)]
        simp only [List.map_append, List.map_cons, List.map_nil]
        have := Ar_snoc p4 0
        rw [List.length_map] at this; exact this
    refine ⟨fun z => absurd z (nI_nle (show 0 < b'.length by omega) (by omega)), fun _ => ?_⟩
    rw [p1, nIeq (x := 0) (b := 0) rfl (by omega) (by decide)]
    rcases pks_cases W X b' with ⟨X0, g, e, z, ep⟩ | ⟨z, ep⟩
    · refine ⟨fun c2 => by rw [e] at c2; simp at c2, fun _ => ?_⟩
      have hIg := (hIi g (by rw [e]; simp)).2
      have el : X.length = X0.length + 1 := by rw [e, List.length_append, List.length_singleton]
      have p4' := p4
      rw [e] at p4'
      simp only [List.map_append, List.map_cons, List.map_nil] at p4'
      have e67 := Ar_last p4'
      rw [List.length_map] at e67
      rw [el, nI_pred, nI_clamp (show X0.length < 2 ^ 31 by omega)]
      refine ⟨_, sm_66 hM5, sk_20_67 hC, by rw [sn_20_67 hC]; exact vp_in_nI (by omega) (by decide), _, sm_63 hM5, sk_20_64 hC, vin, ?_⟩
      rw [e67, w3', hLM5.1.2.1]
      show (nI (tot g) + nI b'.length ≤ 1024 * nI W → _) ∧ (¬ nI (tot g) + nI b'.length ≤ 1024 * nI W → _)
      rw [nI_add, show (1024 : Int32) * nI W = nI (W * 1024) from by rw [show (1024 : Int32) = nI 1024 from rfl, pk_mul, Nat.mul_comm], nI_cmp (by omega) (by omega)]
      refine ⟨fun _ => last M5 ks X0 g E5 hr hh (by rw [← e]; exact ⟨p1, p2, p3, p4⟩) (by omega) ep hIg, fun c2 => absurd z c2⟩
    · have hnew := newS (by rw [ep, List.length_append, List.length_singleton] at hXl; omega) ep
      refine ⟨fun _ => hnew, fun c2 => ?_⟩
      rcases snoc_cases X with e | ⟨X0, g, e⟩
      · rw [e] at c2; exact absurd rfl c2
      · have z2 := z X0 g e
        have hIg := (hIi g (by rw [e]; simp)).2
        have el : X.length = X0.length + 1 := by rw [e, List.length_append, List.length_singleton]
        have p4' := p4
        rw [e] at p4'
        simp only [List.map_append, List.map_cons, List.map_nil] at p4'
        have e67 := Ar_last p4'
        rw [List.length_map] at e67
        rw [el, nI_pred, nI_clamp (show X0.length < 2 ^ 31 by omega)]
        refine ⟨_, sm_66 hM5, sk_20_67 hC, by rw [sn_20_67 hC]; exact vp_in_nI (by omega) (by decide), _, sm_63 hM5, sk_20_64 hC, vin, ?_⟩
        rw [e67, w3', hLM5.1.2.1]
        show (nI (tot g) + nI b'.length ≤ 1024 * nI W → _) ∧ (¬ nI (tot g) + nI b'.length ≤ 1024 * nI W → _)
        rw [nI_add, show (1024 : Int32) * nI W = nI (W * 1024) from by rw [show (1024 : Int32) = nI 1024 from rfl, pk_mul, Nat.mul_comm], nI_cmp (by omega) (by omega)]
        exact ⟨fun c3 => absurd c3 z2, fun _ => hnew⟩
