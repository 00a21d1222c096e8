/-! compaction by the class -/
def CoR (nL W nB l : Nat) (now : Int32) (L L' : LSt) (r : Int32) : Prop :=
  ((lS L l).length < 2 ∧ L' = L ∧ r = 0) ∨ ∃ Sc so os gn X, lS L l = Sc ++ [so] ∧ Sc ≠ [] ∧ os = koz (aq (PS (lS L l))) now (BS (lS L l)) (PS Sc) ∧ gn = gnz (aq (PS (lS L l))) now (PS Sc) ∧ X = pkf W [] os ∧
    ((gn = 0 ∧ lsz os = 0 ∧ L' = L ∧ r = 0) ∨ (¬ (gn = 0 ∧ lsz os = 0) ∧ ((RmN (nL + 2) W nB (FFs (lS L) (nL + 1)) X.length ∧ L' = L ∧ r = -2) ∨ ∃ ks l' ad dn full, Rms (nL + 2) W nB (FFs (lS L) (nL + 1)) ks ∧ ks.length = X.length ∧ SpR (lL L) (wsum X + 1) l' ad dn full ∧ ((full ∧ L' = (lE L, m1 (lS L) l (ks.zip X ++ [so]), l', lW L + nI ad, dn)) ∨ (¬ full ∧ L' = (lE L, lS L, l', lW L + nI ad, dn))) ∧ r = if dn = 0 then nI gn else -3)))
theorem CoR_fun {nL W nB l : Nat} {now : Int32} {L L1 L2 : LSt} {r1 r2 : Int32} (h : CoR nL W nB l now L L1 r1) (k : CoR nL W nB l now L L2 r2) : L1 = L2 ∧ r1 = r2 := by
  rcases h with ⟨h0, h1, h2⟩ | ⟨Sc, so, os, gn, X, e1, e2, e3, e4, e5, h⟩
  · rcases k with ⟨k0, k1, k2⟩ | ⟨Sc', so', os', gn', X', f1, f2, f3, f4, f5, k⟩
    · exact ⟨by rw [h1, k1], by rw [h2, k2]⟩
    · exfalso
      rw [f1, List.length_append, List.length_singleton] at h0
      exact f2 (List.length_eq_zero_iff.mp (by omega))
  · rcases k with ⟨k0, k1, k2⟩ | ⟨Sc', so', os', gn', X', f1, f2, f3, f4, f5, k⟩
    · exfalso
      rw [e1, List.length_append, List.length_singleton] at k0
      exact e2 (List.length_eq_zero_iff.mp (by omega))
    · have ee := e1.symm.trans f1
      obtain ⟨a, b⟩ := snoc_inj ee
      subst a b
      rw [← e3] at f3; subst f3
      rw [← e4] at f4; subst f4
      rw [← e5] at f5; subst f5
      rcases h with ⟨h1, h2, h3, h4⟩ | ⟨hn, h⟩
      · rcases k with ⟨k1, k2, k3, k4⟩ | ⟨kn, k⟩
        · exact ⟨by rw [h3, k3], by rw [h4, k4]⟩
        · exact absurd ⟨h1, h2⟩ kn
      · rcases k with ⟨k1, k2, k3, k4⟩ | ⟨kn, k⟩
        · exact absurd ⟨k1, k2⟩ hn
        · rcases h with ⟨h1, h2, h3⟩ | ⟨ks, l', ad, dn, full, h1, h2, h3, h4, h5⟩
          · rcases k with ⟨k1, k2, k3⟩ | ⟨ks', l2, ad2, dn2, full2, k1, k2, k3, k4, k5⟩
            · exact ⟨by rw [h2, k2], by rw [h3, k3]⟩
            · exact absurd h1 (fun z => Rms_no k1 k2 z)
          · rcases k with ⟨k1, k2, k3⟩ | ⟨ks', l2, ad2, dn2, full2, k1, k2, k3, k4, k5⟩
            · exact absurd k1 (fun z => Rms_no h1 h2 z)
            · have ek := Rms_fun h1 k1 (by omega)
              obtain ⟨s1, s2, s3, s4⟩ := SpR_fun h3 k3
              subst ek s1 s2 s3
              refine ⟨?_, by rw [h5, k5]⟩
              rcases h4 with ⟨a, b⟩ | ⟨a, b⟩
              · rcases k4 with ⟨c, d⟩ | ⟨c, d⟩
                · rw [b, d]
                · exact absurd (s4.mp a) c
              · rcases k4 with ⟨c, d⟩ | ⟨c, d⟩
                · exact absurd (s4.mpr c) a
                · rw [b, d]
theorem lp_in {k : List Int32} : ∀ {Q : KQ} {p : Nat}, (p, some k) ∈ Q → lp Q k ≠ none
  | (p', x) :: Q, p, h => by
    show (match lp Q k with | some r => some r | none => if x = some k then some p' else none) ≠ none
    cases e : lp Q k with
    | some r => exact (fun z => by cases z)
    | none =>
      rcases List.mem_cons.mp h with h | h
      · cases h
        exact (fun z => by rw [if_pos rfl] at z; cases z)
      · exact absurd e (lp_in h)
theorem bq_mem {p k : Nat} {b : Bt} {c : Rc} (h : (rsB b)[k]? = some c) : rq b p k c ∈ bq p b := by
  unfold bq
  rw [List.mem_map]
  exact ⟨(c, k), List.mem_of_getElem? (zip_get h), rfl⟩
theorem aq_mem {X : List (Nat × Bt)} {x : Nat × Bt} {k : Nat} {c : Rc} (hx : x ∈ X) (h : (rsB x.2)[k]? = some c) : rq x.2 x.1 k c ∈ aq X := by
  unfold aq
  rw [List.mem_flatMap]
  exact ⟨x, hx, bq_mem h⟩
theorem gnz_le (Q : KQ) (now : Int32) : ∀ (Z : List (Nat × Bt)), gnz Q now Z ≤ rsN (Z.map (fun x => x.2))
  | [] => Nat.le_refl _
  | x :: Z => by
    have := gnz_le Q now Z
    unfold gnz at this ⊢
    simp only [List.map_cons, List.sum_cons, rsN]
    omega
theorem lsz_le (os : List (Option Bt)) : lsz os ≤ os.length := List.length_filter_le _ _
def PRn : Nat → Nat → Nat → Prop := fun a b _ => a = 0 ∧ 18 ≤ b ∧ b ≤ 25
def PCo (l : Nat) : Nat → Nat → Nat → Prop := fun a b _ => a = l + 1 ∨ (a = 0 ∧ (b = 10 ∨ b = 11 ∨ b = 15 ∨ b = 16 ∨ (18 ≤ b ∧ b ≤ 25)))
set_option maxRecDepth 20000 in
theorem c_run {Y : Ly} {q : Nat → Nat → Nat} {nL W nB : Nat} {M : Mm} {st : Nat → Int64} {L : LSt} {l : Nat} {now : Int32} {Kn : Int32 → Mm → Prop} (hC : SC Y q nL W nB) (hR : SR q nL (mR M)) (hl : l ≤ nL) (hG : Geo nL W nB (lS L)) (hOK : LogOK nL (lS L)) (hCL : CL q nL W nB M st L) (hD0 : lD L = 0) (hlf : LfOK (lL L))
    (h : ∀ L' r M', CoR nL W nB l now L L' r → CL q nL W nB M' st L' → Ec q (PCo l) M M' → (∀ j, j < 1024 → mI M' (q 0 11) j = mI M (q 0 11) j) → Kn r M') : f_X2_run Y (q 0 18) (q (l + 1) 0) now M Kn := by
  have hd := sdims hC
  have n11 := sn_0_11 hC
  have hCL0 := hCL
  obtain ⟨hLS, hDk, hw, hlf2, hdn, hLC⟩ := hCL
  have hLC := hLC hD0
  obtain ⟨b1, b2, b3, b4⟩ := hLC.2.2 l hl
  have t3 := b2.1
  have t7 := b2.2.1
  have hGl := hG.1 l hl
  have hct := Geo_count hG hl
  unfold f_X2_run f_X2_run_28
  rw [t3]
  by_cases z : (lS L l).length < 2
  · refine ⟨sk_t_0 hC l hl, fun c => absurd c ?_, fun _ => ⟨fun c => absurd rfl c, fun _ => h L 0 M (Or.inl ⟨z, rfl, rfl⟩) hCL0 (Ec_refl _ _ _) (fun _ _ => rfl)⟩⟩
    rw [show (2 : Int32) = nI 2 from rfl, nI_cmp (by decide) (by omega)]; omega
  rcases snoc_cases (lS L l) with e | ⟨Sc, so, eS⟩
  · rw [e] at z; exact absurd (show ([] : List Sg).length < 2 by decide) z
  have hlen : (lS L l).length = Sc.length + 1 := by rw [eS, List.length_append, List.length_singleton]
  have hSc0 : Sc ≠ [] := fun c => by rw [c] at hlen; simp at hlen; omega
  have ePl : (PS (lS L l)).length = (PS Sc).length + so.2.length := by rw [eS]; exact PS_len2 Sc so.1 so.2
  obtain ⟨s0, hs0⟩ : ∃ s0, Sc[0]? = some s0 := lt_some (by have := List.length_pos_iff.mpr hSc0; omega)
  have hpos : 0 < (PS Sc).length := by
    have hm : s0 ∈ lS L l := by rw [eS]; exact List.mem_append_left _ (List.mem_of_getElem? hs0)
    have hne := (hGl.2 s0 hm).2.2.2.1
    have hp2 := List.length_pos_iff.mpr hne
    have := PS_s hs0
    have hle : (PS (Sc.take 1)).length ≤ (PS Sc).length := by
      have : PS Sc = PS (Sc.take 1) ++ PS (Sc.drop 1) := by rw [← PS_app, List.take_append_drop]
      rw [this, List.length_append]; omega
    simp only [Nat.zero_add] at this
    omega
  have hix : ∀ i x, (PS Sc)[i]? = some x → (PS (lS L l))[i]? = some x := fun i x hx => by
    rw [eS, PS_app, List.getElem?_append_left (List.getElem?_eq_some_iff.mp hx).1]; exact hx
  have e6 : mI M (q (l + 1) 3) Sc.length = nI so.2.length := Ar_map b2.2.2.2.2.1 (show (lS L l)[Sc.length]? = some so by rw [eS]; simp)
  refine ⟨sk_t_0 hC l hl, fun _ => ⟨_, sr_t_6 hR l hl, sk_t_3 hC l hl, ?_, ?_⟩, fun c => absurd ?_ c⟩
  rotate_left 2
  · rw [show (2 : Int32) = nI 2 from rfl, nI_cmp (by decide) (by omega)]; omega
  · rw [hlen, nI_pred, sn_t_3 hC l hl]; exact vp_in_nI (by omega) (by decide)
  rw [hlen, nI_pred, nI_clamp (by omega), e6, t7, ePl, pk_sub (by omega), Nat.add_sub_cancel, nIeq (x := 0) (b := 0) rfl (by omega) (by decide)]
  refine ⟨fun _ => ⟨sk_0_18 hC, ?_⟩, fun c => absurd c (by omega)⟩
  refine c_noteKeys hC hR hG hLC hDk hOK hl (fun m T P M4 em hm lk ht E4 => ?_)
  intro M6 e6' M7 e7
  obtain ⟨Q, eQ⟩ : ∃ Q, Q = aq (PS (lS L l)) := ⟨_, rfl⟩
  obtain ⟨os, eos⟩ : ∃ os, os = koz Q now (BS (lS L l)) (PS Sc) := ⟨_, rfl⟩
  rw [← eQ] at lk
  have hQl : Q.length = rsN (BS (lS L l)) := by rw [eQ, aq_len, PS_snd]
  have hocc : occ T m < m := by have := lk.2.2.2; omega
  have E7 : Ec q PRn M M7 := by
    refine Ec_trans (Ec_mono E4 (fun a b j z => ⟨z.1, by rcases z.2 with w | w | w | w <;> omega⟩)) (Ec_trans (Ec_sI hC e6' ⟨rfl, by omega, by omega⟩) (Ec_sI hC e7 ⟨rfl, by omega, by omega⟩))
  have ht7 : HT q nB M7 m T P := by
    have E67 : Ec q (fun a b j => a = 0 ∧ b = 18 ∧ (j = 7 ∨ j = 9)) M4 M7 := Ec_trans (Ec_sI hC e6' ⟨rfl, rfl, Or.inl rfl⟩) (Ec_sI hC e7 ⟨rfl, rfl, Or.inr rfl⟩)
    exact HT_ec ht E67 (by omega) (fun j => by omega) (fun j => by omega) (fun j => by omega)
  have pk7 : PK q M7 [] := by
    refine ⟨by rw [e7, mI_sI_self, m1_at]; rfl, ?_, Ar_nil _, Ar_nil _, (fun p hp => by cases hp)⟩
    rw [e7, mI_sI_self, m1_nat _ _ (by decide), e6', mI_sI_self, m1_at]; rfl
  have hbat : ∀ x, x ∈ PS Sc → BatOK x.2 := fun x hx => by
    obtain ⟨i, hi⟩ := List.getElem?_of_mem hx
    exact (BS_at (nL := nL) (W := W) (nB := nB) hOK hl (hix i x hi)).2
  have hshr : Shr (BS Sc) os := by rw [eos, ← PS_snd]; exact koz_Shr hbat
  have hseg : ∀ s, s ∈ Sc → sz s ≤ W * 1024 := fun s hs => (hGl.2 s (by rw [eS]; exact List.mem_append_left _ hs)).2.2.1
  have hpl : (pkf W [] os).length ≤ Sc.length := by
    have := PkB_all (W := W) (t := 0) (X := []) hshr hseg (Nat.le_refl _)
    omega
  have hosl : os.length = (PS Sc).length := by rw [eos, koz_len]
  have hkin : ∀ b, some b ∈ os → ∃ x, x ∈ PS Sc ∧ b = kbt Q now x.1 x.2 := fun b hb => by
    obtain ⟨i, hi⟩ := List.getElem?_of_mem hb
    obtain ⟨x, hx⟩ := lt_some (show i < (PS Sc).length by have := (List.getElem?_eq_some_iff.mp hi).1; omega)
    rw [eos, koz_at hx] at hi
    have hxm := List.mem_of_getElem? hx
    exact ⟨x, hxm, (kop_len (hbat x hxm) (Option.some.inj hi)).1⟩
  have hkI : ∀ i, PkI W (pkf W [] (os.take i)) := fun i => PkI_f (fun g hg => by cases hg) (fun b hb => by
    obtain ⟨x, hx, e⟩ := hkin b (List.mem_of_mem_take hb)
    have h1 := (kbt_len (Q := Q) (now := now) (p := x.1) (hbat x hx)).2.1
    obtain ⟨s, hs, h2, h3, h4⟩ := PS_in hx
    have h5 := hseg s hs
    rw [e]; omega)
  have htt : ∀ i, tot (pkf W [] (os.take i)).flatten ≤ tot ((BS Sc).take i) := fun i => by
    rw [pkf_flat]; exact Shr_tot hshr i
  have hnB : tot (BS (lS L l)) ≤ nB * 1024 := by rw [BS_tot]; exact Geo_szs hG hl
  have hBSc : tot (BS Sc) ≤ nB * 1024 := by
    rw [eS, BS_app, tot_app] at hnB; omega
  have hgb : ∀ i, gnz Q now ((PS Sc).take i) ≤ nB * 1024 := fun i => by
    have g1 := gnz_le Q now ((PS Sc).take i)
    have g2 : rsN (((PS Sc).take i).map (fun x => x.2)) ≤ rsN (BS (lS L l)) := by
      rw [List.map_take, PS_snd]
      have : BS (lS L l) = (BS Sc).take i ++ ((BS Sc).drop i ++ BS [so]) := by rw [← List.append_assoc, List.take_append_drop, ← BS_app, ← eS]
      rw [this, rsN_app]; omega
    have g3 := (rsN_le (hOK l hl)).1
    omega
  have hCLn : ∀ {M' : Mm}, Ec q PRn M M' → CL q nL W nB M' st L := fun E => CL_ec hCL0 E (fun j => by unfold PRn; omega) (fun j => by unfold PRn; omega) (fun j => by unfold PRn; omega) (fun l b j _ => by unfold PRn; omega)
  have up : ∀ {M' : Mm}, Ec q PRn M M' → Ec q (PCo l) M M' := fun E => Ec_mono E (fun a b j z => Or.inr ⟨z.1, by have := z.2; omega⟩)
  have dlo : ∀ {M' : Mm}, Ec q PRn M M' → mI M' (q 0 11) = mI M (q 0 11) := fun E => Ec_I E (fun j => by unfold PRn; omega)
  refine LOOP4_inv (fun x8 x9 x10 M11 => ∃ i, i ≤ (PS Sc).length ∧ x10 = nI i ∧ x8 = nI (gnz Q now ((PS Sc).take i)) ∧ x9 = nI (lsz (os.take i)) ∧ Ec q PRn M M11 ∧ PK q M11 (pkf W [] (os.take i)) ∧ HT q nB M11 m T P) (fun _ _ x10 _ => (PS Sc).length - x10.toNatClampNeg) ?_ _ _ _ _ ⟨0, by omega, rfl, rfl, rfl, E7, pk7, ht7⟩
  rintro x8 x9 x10 M11 again ⟨i, hi, rfl, rfl, rfl, E, pk, htb⟩ hag
  have hR11 : SR q nL (mR M11) := by rw [E.2]; exact hR
  have d11 := dlo E
  unfold L_X2_run_59
  have hgi := hgb i
  have hli : lsz (os.take i) ≤ (PS Sc).length := Nat.le_trans (lsz_le _) (by rw [List.length_take]; omega)
  rw [nI_cmp (by omega) (by omega), nIeq (x := 0) (b := 0) rfl (by omega) (by decide), nIeq (x := 0) (b := 0) rfl (by omega) (by decide)]
  refine ⟨fun c => ?_, fun c => ?_⟩
  · have ei : i = (PS Sc).length := by omega
    have eg : gnz Q now ((PS Sc).take i) = gnz Q now (PS Sc) := by rw [List.take_of_length_le (by omega)]
    have eo : os.take i = os := List.take_of_length_le (by omega)
    rw [eo] at pk ⊢
    rw [eg] at hgi ⊢
    have hI := hkI i
    rw [eo] at hI
    have ht2 := htt i
    rw [eo] at ht2
    have hCL11 := hCLn E
    have hLC11 := LogC_ec hLC E (fun j => by unfold PRn; omega) (fun l b j _ => by unfold PRn; omega)
    have mk : ∀ L' r, ((gnz Q now (PS Sc) = 0 ∧ lsz os = 0 ∧ L' = L ∧ r = 0) ∨ (¬ (gnz Q now (PS Sc) = 0 ∧ lsz os = 0) ∧ ((RmN (nL + 2) W nB (FFs (lS L) (nL + 1)) (pkf W [] os).length ∧ L' = L ∧ r = -2) ∨ ∃ ks l' ad dn full, Rms (nL + 2) W nB (FFs (lS L) (nL + 1)) ks ∧ ks.length = (pkf W [] os).length ∧ SpR (lL L) (wsum (pkf W [] os) + 1) l' ad dn full ∧ ((full ∧ L' = (lE L, m1 (lS L) l (ks.zip (pkf W [] os) ++ [so]), l', lW L + nI ad, dn)) ∨ (¬ full ∧ L' = (lE L, lS L, l', lW L + nI ad, dn))) ∧ r = if dn = 0 then nI (gnz Q now (PS Sc)) else -3))) → CoR nL W nB l now L L' r := fun L' r hh => Or.inr ⟨Sc, so, os, gnz Q now (PS Sc), pkf W [] os, eS, hSc0, by rw [eos, eQ], by rw [eQ], rfl, hh⟩
    have go : ¬ (gnz Q now (PS Sc) = 0 ∧ lsz os = 0) → f_X2_run_158 Y (q 0 18) (q (l + 1) 0) Kn (nI (gnz Q now (PS Sc))) M11 := by
      intro hn
      unfold f_X2_run_158 f_X2_run_183
      refine c_findRoom hC hR11 hG hLC11 (by omega) pk (fun ks M13 hr hkl E13 hA => ⟨fun _ => ?_, fun c => absurd c (by decide)⟩) (fun M13 hN E13 => ⟨fun c => absurd rfl c, fun _ => ?_⟩)
      · have E13' : Ec q (PCo l) M M13 := Ec_trans (up E) (Ec_mono E13 (fun a b j z => Or.inr ⟨z.1, by have := z.2; omega⟩))
        have hCL13 : CL q nL W nB M13 st L := CL_ec hCL11 E13 (fun j => by unfold PFr; omega) (fun j => by unfold PFr; omega) (fun j => by unfold PFr; omega) (fun l b j _ => by unfold PFr; omega)
        have pk13 : PK q M13 (pkf W [] os) := PK_ec pk E13 (by unfold PFr; omega) (by unfold PFr; omega) (fun j => by unfold PFr; omega) (fun j => by unfold PFr; omega) (fun j _ => by rw [Ec_I E13 (fun j => by unfold PFr; omega)])
        have d13 : mI M13 (q 0 11) = mI M (q 0 11) := by rw [Ec_I E13 (fun j => by unfold PFr; omega)]; exact d11
        have hfl : (pkf W [] os).flatten = os.filterMap id := by rw [pkf_flat]; rfl
        refine c_write hC (by rw [E13.2]; exact hR11) hl hG hOK hCL13 hD0 hlf eS hpl hkl hr hI pk13 hA ?_ ?_ ?_ ?_
        · intro b hb
          rw [hfl, List.mem_filterMap] at hb
          obtain ⟨o, ho, e⟩ := hb
          simp only [id] at e
          subst e
          obtain ⟨x, hx, e⟩ := hkin b ho
          have := (kbt_ok (Q := Q) (now := now) (p := x.1) (hbat x hx)).1
          rw [e]; exact ⟨this.1, this.2.2.2.1⟩
        · rw [List.take_of_length_le (by rw [← PS_len]; omega)] at ht2; omega
        · rw [hfl]
          have := List.length_filterMap_le id os
          omega
        · intro L' dn l' ad full M16 hSp hL' hCL' F16 lo16
          have E16 : Ec q (PCo l) M M16 := Ec_trans E13' (Ec_mono (Ec_Fr hC F16) (fun a b j z => by rcases z with z | ⟨z, w⟩; exact Or.inl z; exact Or.inr ⟨z, by omega⟩))
          have key := h L' (if dn = 0 then nI (gnz Q now (PS Sc)) else -3) M16 (mk _ _ (Or.inr ⟨hn, Or.inr ⟨ks, l', ad, dn, full, hr, hkl, hSp, hL', rfl⟩⟩)) hCL' E16 (fun j hj => by rw [lo16 j hj, d13])
          rcases SpR_dn hSp with w | ⟨w, _⟩
          · rw [w] at key ⊢
            exact ⟨fun c => absurd c (by decide), fun _ => key⟩
          · rw [w] at key ⊢
            exact ⟨fun _ => key, fun c => absurd rfl c⟩
      · have E13' : Ec q (PCo l) M M13 := Ec_trans (up E) (Ec_mono E13 (fun a b j z => Or.inr ⟨z.1, by have := z.2; omega⟩))
        exact h L (-2) M13 (mk _ _ (Or.inr ⟨hn, Or.inl ⟨hN, rfl, rfl⟩⟩)) (CL_ec hCL11 E13 (fun j => by unfold PFr; omega) (fun j => by unfold PFr; omega) (fun j => by unfold PFr; omega) (fun l b j _ => by unfold PFr; omega)) E13' (fun j _ => by rw [Ec_I E13 (fun j => by unfold PFr; omega), d11])
    exact ⟨fun c1 => go (fun w => c1 w.1), fun c1 => ⟨fun c2 => go (fun w => c2 w.2), fun c2 => h L 0 M11 (mk _ _ (Or.inl ⟨c1, c2, rfl, rfl⟩)) hCL11 (up E) (fun j _ => by rw [d11])⟩⟩
  · obtain ⟨x, hx⟩ := lt_some (show i < (PS Sc).length by omega)
    have hxm := List.mem_of_getElem? hx
    have hxS := hix i x hx
    have hLC11 := LogC_ec hLC E (fun j => by unfold PRn; omega) (fun l b j _ => by unfold PRn; omega)
    have hDk11 : DkA nL (mI M11 (q 0 11)) st (lE L) (lS L) := by rw [d11]; exact hDk
    obtain ⟨v1, v2, v3, v4⟩ := c_at (Y := Y) hG hLC11 hDk11 hl hxS
    have hbx := hbat x hxm
    obtain ⟨la, hla, hlaB, hrec⟩ := Bat_rec hbx
    obtain ⟨kl1, kl2, kl3⟩ := kbt_len (Q := Q) (now := now) (p := x.1) hbx
    have hcnt := hrec.2.2.1
    have hBi : (BS Sc)[i]? = some x.2 := by rw [← PS_snd, List.getElem?_map, hx]; rfl
    have hstage : tot (pkf W [] (os.take i)).flatten + x.2.length ≤ nB * 1024 := by
      have a1 := htt i
      have a2 := tot_mono (BS Sc) (i + 1)
      rw [tot_take hBi] at a2
      omega
    have hin4 : vp_in (nI i) (yN Y (q (l + 1) 4)) := by rw [sn_t_4 hC l hl]; exact vp_in_nI (by omega) (by omega)
    have hoi := koz_at (Q := Q) (now := now) (xs := BS (lS L l)) hx
    rw [← eos] at hoi
    have h16 := hbx.2.1
    refine ⟨_, sr_t_8 hR11 l hl, sk_t_4 hC l hl, hin4, ?_⟩
    rw [nI_clamp (by omega), v1]
    refine c_stage (P := P) (T := T) (Q := Q) hC hR11 v2 v3 hbx (by omega) hm lk htb hocc (fun k c hc key hkey => lp_in (p := (rq x.2 x.1 k c).1) ?_) pk.2.1 hstage (fun M25 E25 lo25 lie25 k25 => ?_)
    · have := aq_mem (X := PS (lS L l)) (List.mem_of_getElem? hxS) hc
      rw [← eQ] at this
      rw [← hkey]; exact this
    have E25' : Ec q PRn M M25 := Ec_trans E (Ec_mono E25 (fun a b j z => ⟨z.1, by rcases z.2 with w | w | w <;> omega⟩))
    have hR25 : SR q nL (mR M25) := by rw [E25'.2]; exact hR
    have pk25 : PK q M25 (pkf W [] (os.take i)) := PK_ec pk E25 (by unfold PSt; omega) (by unfold PSt; omega) (fun j => by unfold PSt; omega) (fun j => by unfold PSt; omega) lo25
    have ht25 : HT q nB M25 m T P := HT_ec htb E25 (by unfold PSt; omega) (fun j => by unfold PSt; omega) (fun j => by unfold PSt; omega) (fun j => by unfold PSt; omega)
    have d25 := dlo E25'
    have a25 : mI M25 (q (l + 1) 4) i = nI x.1 := by rw [Ec_I E25 (fun j => by unfold PSt; omega)]; exact v1
    have v2' : Lie (mI M25 (q 0 11)) x.1 x.2 := by rw [d25, ← d11]; exact v2
    refine ⟨_, sr_0_18_1 hR25, _, sr_t_8 hR25 l hl, sk_t_4 hC l hl, hin4, ?_⟩
    rw [a25]
    refine s_countOf (sk_0_11 hC) (by omega) (by omega) ?_
    rw [cnt_fB v2' v4, hrec.2.1, k25]
    have hk8 : (kst Q now x.1 x.2 (rsB x.2).length).2.1 = kcn Q now x := rfl
    have kl3' : kcn Q now x ≤ (rsB x.2).length := kl3
    rw [hk8, pk_sub (by omega), nI_add, ← gnz_s hx]
    intro x33 e33
    subst e33
    rw [nIeq (x := 0) (b := 0) rfl (by omega) (by decide)]
    have nxt : ∀ o M', kop Q now (BS (lS L l)) x i = o → Ec q PRn M M' → PK q M' (pko W (pkf W [] (os.take i)) o) → HT q nB M' m T P → ∀ x9', x9' = nI (lsz (os.take i) + if o = none then 1 else 0) → f_X2_run_140 Y (nI i) again (nI (gnz Q now ((PS Sc).take (i + 1)))) x9' M' := by
      intro o M' ho E' pk' ht' x9' e9
      unfold f_X2_run_140
      intro x36 e36
      rw [nI_1] at e36
      subst e36 e9
      rw [ho] at hoi
      refine hag _ _ _ _ ⟨i + 1, by omega, rfl, rfl, by rw [lsz_s hoi], E', by rw [pkf_s hoi]; exact pk', ht'⟩ (by rw [nI_clamp (by omega), nI_clamp (by omega)]; omega)
    have keepit : ¬ (kcn Q now x = 0 ∧ ¬ kno (BS (lS L l)) i x.2) → f_X2_run_134 Y (q 0 18) (nI (lsz (os.take i))) (nI i) again (nI (61 + (kst Q now x.1 x.2 (rsB x.2).length).1.length)) (nI (gnz Q now ((PS Sc).take (i + 1)))) M25 := by
      intro hk
      have ho : kop Q now (BS (lS L l)) x i = some (kbt Q now x.1 x.2) := by unfold kop; exact cif_n hk
      unfold f_X2_run_134
      rw [← kl1]
      have hpl2 : (pks W (pkf W [] (os.take i)) (kbt Q now x.1 x.2)).length ≤ 60 := by
        have a1 := pkf_tk W [] os (i + 1)
        rw [ho] at hoi
        rw [pkf_s hoi] at a1
        have a2 : (pks W (pkf W [] (os.take i)) (kbt Q now x.1 x.2)).length ≤ (pkf W [] os).length := a1
        omega
      refine c_keep hC hR25 (by rw [Ec_I E25' (fun j => by unfold PRn; omega)]; exact hLC.1) (hkI i) hpl2 (by omega) pk25 lie25 (fun M38 E38 pk38 => ?_)
      refine nxt _ M38 ho (Ec_trans E25' (Ec_mono E38 (fun a b j z => ⟨z.1, by rcases z.2 with w | w | w <;> omega⟩))) pk38 (HT_ec ht25 E38 (by unfold PKp; omega) (fun j => by unfold PKp; omega) (fun j => by unfold PKp; omega) (fun j => by unfold PKp; omega)) _ (by simp)
    refine ⟨fun c1 => keepit (fun w => c1 w.1), fun c1 => ⟨_, sr_0_18_0 hR25, _, sr_t_8 hR25 l hl, sk_t_4 hC l hl, hin4, sk_0_13 hC, ?_⟩⟩
    rw [a25]
    refine c_isKnown hC hR25 hG (LogC_ec hLC E25' (fun j => by unfold PRn; omega) (fun l b j _ => by unfold PRn; omega)) (by rw [d25]; exact hDk) hl hxS (fun hk => ⟨fun _ => keepit (fun w => w.2 hk), fun c => absurd c (by decide)⟩) (fun hk => ⟨fun c => absurd rfl c, fun _ x48 e48 => ?_⟩)
    have ho : kop Q now (BS (lS L l)) x i = none := by unfold kop; exact cif_y ⟨c1, hk⟩
    rw [nI_1] at e48
    exact nxt none M25 ho E25' pk25 ht25 _ (by rw [e48, if_pos rfl])
