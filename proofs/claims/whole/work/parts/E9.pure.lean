/-! compaction keeps what holds -/
def Cor : List Bt → List (Option Bt) → Prop
  | [], [] => True
  | b :: bs, o :: os => (∀ b', o = some b' → baB b' = baB b ∧ laB b' = laB b) ∧ Cor bs os
  | [], _ :: _ => False
  | _ :: _, [] => False
theorem Cor_of : ∀ {bs : List Bt} {os : List (Option Bt)}, bs.length = os.length → (∀ (i : Nat) b b', bs[i]? = some b → os[i]? = some (some b') → baB b' = baB b ∧ laB b' = laB b) → Cor bs os
  | [], [], _, _ => trivial
  | [], _ :: _, h, _ => by simp at h
  | _ :: _, [], h, _ => by simp at h
  | b :: bs, o :: os, h, k => ⟨fun b' e => k 0 b b' rfl (by rw [e]; rfl), Cor_of (by simpa using h) (fun i b b' h1 h2 => k (i + 1) b b' h1 h2)⟩
theorem Ord_mono : ∀ {xs : List Bt} {s s' e : Nat}, Ord s' xs e → s ≤ s' → Ord s xs e
  | [], s, s', e, h, hs => by have h : s' ≤ e := h; show s ≤ e; omega
  | b :: xs, s, s', e, ⟨a, la, h1, h2, h3, h4, h5⟩, hs => ⟨a, la, h1, h2, by omega, h4, h5⟩
theorem Ord_cor {tl : List Bt} {e : Nat} : ∀ {bs : List Bt} {os : List (Option Bt)} {s : Nat}, Cor bs os → Ord s (bs ++ tl) e → Ord s (os.filterMap id ++ tl) e
  | [], [], s, _, h => h
  | [], _ :: _, _, h, _ => absurd h (fun z => z)
  | _ :: _, [], _, h, _ => absurd h (fun z => z)
  | b :: bs, none :: os, s, h, ⟨a, la, h1, h2, h3, h4, h5⟩ => Ord_mono (Ord_cor (os := os) h.2 h5) (by omega)
  | b :: bs, some b' :: os, s, h, ⟨a, la, h1, h2, h3, h4, h5⟩ => by
    obtain ⟨e1, e2⟩ := h.1 b' rfl
    exact ⟨a, la, by rw [e1]; exact h1, by rw [e2]; exact h2, h3, h4, Ord_cor (os := os) h.2 h5⟩
theorem kst_Nt {n : Nat} {Q : KQ} {now : Int32} {p : Nat} {b : Bt} (hb : BatOK b) (hN : NtOK n b) (hk : ¬ kcn Q now (p, b) = 0) : NtOK n (kbt Q now p b) := by
  obtain ⟨k1, k2, k3, k4, k5⟩ := kbt_ok (Q := Q) (now := now) (p := p) hb
  have hrs := Nt_rs hN
  have hlen := Nt_len hN hb.1
  have hc : (rsB b)[0]? = some ntC := by rw [hrs]; rfl
  have h1 : (rsB b).length = 0 + 1 := by rw [hrs]; rfl
  have e : (kst Q now p b (rsB b).length).1 = b.drop 61 := by
    unfold kcn at hk
    rw [h1] at hk ⊢
    by_cases z : gon Q now (ftB b) (rq b p 0 ntC) ntC
    · rw [kst_y hc z] at hk; exact absurd rfl hk
    · rw [kst_n hc z]
      show [] ++ (b.drop (rp (rsB b) 0)).take 17 = b.drop 61
      rw [List.nil_append, rp_0, List.take_of_length_le (by rw [List.length_drop]; omega)]
  obtain ⟨g, o, v, a1, a2, ⟨a3, a4⟩, a5⟩ := hN
  exact ⟨g, o, v, a1, a2, ⟨by rw [k5, e]; exact a3, by rw [k4]; exact a4⟩, a5⟩
theorem CoR_IL {nL W nB l n : Nat} {now : Int32} {st : Nat → Int64} {L L' : LSt} {r : Int32} (hI : IL nL W nB n st L) (hl : l ≤ nL) (h : CoR nL W nB l now L L' r) : IL nL W nB n st L' := by
  have hI0 := hI
  obtain ⟨hG, hOK, hE, hN, hP⟩ := hI
  rcases h with ⟨_, rfl, _⟩ | ⟨Sc, so, os, gn, X, eS, hSc, eos, egn, eX, ⟨_, _, rfl, _⟩ | ⟨_, ⟨_, rfl, _⟩ | ⟨ks, l', ad, dn, full, hr, hkl, hSp, hL', _⟩⟩⟩
  · exact hI0
  · exact hI0
  · exact hI0
  have hP' : ∀ E S, PwOK (E, S, l', lW L + nI ad, dn) := by
    intro E S
    rcases SpR_dn hSp with z | ⟨z, _⟩
    · exact Or.inl ⟨z, (SpR_up hSp z).2.2⟩
    · exact Or.inr z
  rcases hL' with ⟨_, rfl⟩ | ⟨_, rfl⟩
  rotate_left
  · exact ⟨hG, hOK, hE, hN, hP' _ _⟩
  have hGl := hG.1 l hl
  have hlen : (lS L l).length = Sc.length + 1 := by rw [eS, List.length_append, List.length_singleton]
  have hix : ∀ x, x ∈ PS Sc → x ∈ PS (lS L l) := fun x hx => by rw [eS, PS_app]; exact List.mem_append_left _ hx
  have hmB : ∀ x, x ∈ PS Sc → x.2 ∈ BS (lS L l) := fun x hx => by rw [← PS_snd]; exact List.mem_map_of_mem (hix x hx)
  have hbat : ∀ x, x ∈ PS Sc → BatOK x.2 := fun x hx => hOK l hl x.2 (hmB x hx)
  have hshr : Shr (BS Sc) os := by rw [eos, ← PS_snd]; exact koz_Shr hbat
  have hseg : ∀ s, s ∈ Sc → sz s ≤ W * 1024 := fun s hs => (hGl.2 s (by rw [eS]; exact List.mem_append_left _ hs)).2.2.1
  have hpl : X.length ≤ Sc.length := by
    have := PkB_all (W := W) (t := 0) (X := []) hshr hseg (Nat.le_refl _)
    rw [eX]; omega
  have hosl : os.length = (PS Sc).length := by rw [eos, koz_len]
  have hat : ∀ (i : Nat) b, os[i]? = some (some b) → ∃ x, (PS Sc)[i]? = some x ∧ kop (aq (PS (lS L l))) now (BS (lS L l)) x i = some b ∧ b = kbt (aq (PS (lS L l))) now x.1 x.2 := fun i b hi => by
    obtain ⟨x, hx⟩ := lt_some (show i < (PS Sc).length by have := (List.getElem?_eq_some_iff.mp hi).1; omega)
    rw [eos, koz_at hx] at hi
    have hxm := List.mem_of_getElem? hx
    exact ⟨x, hx, Option.some.inj hi, (kop_len (hbat x hxm) (Option.some.inj hi)).1⟩
  have hkI : PkI W X := by
    rw [eX]
    refine PkI_f (fun g hg => by cases hg) (fun b hb => ?_)
    obtain ⟨i, hi⟩ := List.getElem?_of_mem hb
    obtain ⟨x, hx, -, e⟩ := hat i b hi
    have hxm := List.mem_of_getElem? hx
    have h1 := (kbt_len (Q := aq (PS (lS L l))) (now := now) (p := x.1) (hbat x hxm)).2.1
    obtain ⟨s, hs, h2, h3, h4⟩ := PS_in hxm
    have h5 := hseg s hs
    rw [e]; omega
  have hfl : X.flatten = os.filterMap id := by rw [eX, pkf_flat]; rfl
  have hkin : ∀ b, b ∈ X.flatten → ∃ i x, (PS Sc)[i]? = some x ∧ kop (aq (PS (lS L l))) now (BS (lS L l)) x i = some b ∧ b = kbt (aq (PS (lS L l))) now x.1 x.2 := fun b hb => by
    rw [hfl, List.mem_filterMap] at hb
    obtain ⟨o, ho, e⟩ := hb
    simp only [id] at e
    subst e
    obtain ⟨i, hi⟩ := List.getElem?_of_mem ho
    obtain ⟨x, hx⟩ := hat i b hi
    exact ⟨i, x, hx⟩
  have hBS : BS (ks.zip X ++ [so]) = X.flatten ++ BS [so] := by rw [BS_app, zip_BS hkl]
  have hBo : BS (lS L l) = BS Sc ++ BS [so] := by rw [eS, BS_app]
  refine ⟨⟨fun l2 h2 => ?_, fun b => ?_⟩, fun l2 h2 b hb => ?_, fun l2 h2 => ?_, fun b hb => ?_, hP' _ _⟩
  · show (m1 (lS L) l (ks.zip X ++ [so]) l2).length ≤ 60 ∧ ∀ s, s ∈ m1 (lS L) l (ks.zip X ++ [so]) l2 → _
    by_cases z : l2 = l
    · subst z
      rw [m1_at]
      refine ⟨by rw [List.length_append, List.length_singleton, List.length_zip]; have := hGl.1; omega, fun s hs => ?_⟩
      rw [List.mem_append, List.mem_singleton] at hs
      rcases hs with hs | rfl
      · obtain ⟨i, hi⟩ := List.getElem?_of_mem hs
        obtain ⟨k, g, h1, h2, h3⟩ := zip_ix hkl (show i < X.length by have := (List.getElem?_eq_some_iff.mp hi).1; rw [List.length_zip] at this; omega)
        rw [h3] at hi; cases hi
        have e1 := hr i k h1
        have hgm := List.mem_of_getElem? h2
        obtain ⟨e2, e3⟩ := hkI g hgm
        refine ⟨e1.1, e1.2.1, e3, e2, fun b hb => ?_⟩
        obtain ⟨i2, x, hx, hk, e⟩ := hkin b (List.mem_flatten.mpr ⟨g, hgm, hb⟩)
        exact (kop_len (hbat x (List.mem_of_getElem? hx)) hk).2.1
      · exact hGl.2 s (by rw [eS]; simp)
    · rw [m1_nat _ _ z]; exact hG.1 l2 h2
  · show cv W (FFs (m1 (lS L) l (ks.zip X ++ [so])) (nL + 1)) b ≤ 1
    obtain ⟨T, eT⟩ : ∃ T : List Sg, T = ks.zip X ++ [so] := ⟨_, rfl⟩
    have e := (FFs_upd (W := W) (S := lS L) (T := T) (l := l) (b := b) (n := nL + 1)).2 (by omega)
    have h1 := Rms_cv hG.2 hr ks.length (Nat.le_refl _) b
    rw [List.take_length, cv_app] at h1
    have h2 : cv W ((lS L l).map (fun s => s.1)) b = cv W (Sc.map (fun s => s.1)) b + cv W [so.1] b := by
      rw [eS, List.map_append, cv_app]; rfl
    have h3 : cv W (T.map (fun s => s.1)) b = cv W ks b + cv W [so.1] b := by
      rw [eT, List.map_append, cv_app]
      have : (ks.zip X).map (fun s : Sg => s.1) = ks := List.map_fst_zip (by omega)
      rw [this]; rfl
    rw [← eT]
    omega
  · have hb' : b ∈ BS (m1 (lS L) l (ks.zip X ++ [so]) l2) := hb
    by_cases z : l2 = l
    · subst z
      rw [m1_at, hBS, List.mem_append] at hb'
      rcases hb' with hb' | hb'
      · obtain ⟨i, x, hx, hk, e⟩ := hkin b hb'
        rw [e]
        exact (kbt_ok (hbat x (List.mem_of_getElem? hx))).1
      · exact hOK l2 h2 b (by rw [hBo]; exact List.mem_append_right _ hb')
    · rw [m1_nat _ _ z] at hb'; exact hOK l2 h2 b hb'
  · show ∃ s e, st l2 = lN s ∧ lE L l2 = lN e ∧ e ≤ n ∧ Ord s (BS (m1 (lS L) l (ks.zip X ++ [so]) l2)) e
    obtain ⟨s, e, a1, a2, a3, a4⟩ := hE l2 h2
    by_cases z : l2 = l
    · subst z
      rw [m1_at, hBS, hfl]
      rw [hBo] at a4
      refine ⟨s, e, a1, a2, a3, Ord_cor (Cor_of (by rw [hosl, PS_len]) (fun i b b' h1 h2 => ?_)) a4⟩
      obtain ⟨x, hx, -, e⟩ := hat i b' h2
      rw [← PS_snd, List.getElem?_map, hx] at h1
      cases h1
      have := kbt_ok (Q := aq (PS (lS L l2))) (now := now) (p := x.1) (hbat x (List.mem_of_getElem? hx))
      rw [e]; exact ⟨this.2.1, this.2.2.1⟩
    · rw [m1_nat _ _ z]
      exact ⟨s, e, a1, a2, a3, a4⟩
  · have hb' : b ∈ BS (m1 (lS L) l (ks.zip X ++ [so]) nL) := hb
    by_cases z : nL = l
    · subst z
      rw [m1_at, hBS, List.mem_append] at hb'
      rcases hb' with hb' | hb'
      · obtain ⟨i, x, hx, hk, e⟩ := hkin b hb'
        have hxm := List.mem_of_getElem? hx
        have hnt := hN x.2 (hmB x hxm)
        rw [e]
        refine kst_Nt (hbat x hxm) hnt (fun w => ?_)
        have hnk : ¬ kno (BS (lS L nL)) i x.2 := fun y => by
          obtain ⟨g, o, v, -, -, ⟨-, p⟩, -⟩ := hnt
          exact y.1 p
        unfold kop at hk
        rw [cif_y ⟨w, hnk⟩] at hk
        cases hk
      · exact hN b (by rw [hBo]; exact List.mem_append_right _ hb')
    · rw [m1_nat _ _ z] at hb'; exact hN b hb'
def rComp (nL W nB : Nat) (v : Int32) (A : AS) : Op := oB (LgO (nL + 1) v) (oB (lD (aL A) = 0) (oE (fun x : LSt × Int32 => CoR nL W nB v.toNatClampNeg (nI (gT (aG A))) (aL A) x.1 x.2) (fun x => oR 0 x.2.toInt64 (A.1, A.2.1, A.2.2.1, A.2.2.2.1, aS A, x.1, A.2.2.2.2.2.2))) (oR 2 0 A)) (oR 1 0 A)
theorem rComp_D (nL W nB : Nat) (v : Int32) (A : AS) : Det (rComp nL W nB v A) := Det_B (fun _ => Det_B (fun _ => Det_E (fun x y h h' => by
  obtain ⟨e1, e2⟩ := CoR_fun h h'
  exact Prod.ext e1 e2) (fun _ _ => Det_R _ _ _)) (fun _ => Det_R _ _ _)) (fun _ => Det_R _ _ _)
theorem rComp_P {Y : Ly} {q : Nat → Nat → Nat} {nL W nB : Nat} {n : Nat} {v : Int32} {A : AS} (hC : SC Y q nL W nB) (h : AI nL W nB n A) : Pre nL W nB n (rComp nL W nB v A) := by
  have hd := sdims hC
  have up := AI_up h (Nat.le_add_right n KK)
  refine Pre_B (fun g => Pre_B (fun _ => Pre_E (fun x hx => Pre_R ?_)) (fun _ => Pre_R up)) (fun _ => Pre_R up)
  obtain ⟨l, hl, rfl⟩ := LgO_n (by omega) g
  rw [nI_clamp (by omega)] at hx
  exact ⟨up.1, up.2.1, up.2.2.1, up.2.2.2.1, CoR_IL up.2.2.2.2 (by omega) hx⟩
theorem CS_co {Y : Ly} {q : Nat → Nat → Nat} {nL W nB : Nat} {M M' : Mm} {A : AS} {l : Nat} {st : Nat → Int64} {L : LSt} (hC : SC Y q nL W nB) (h : CS q nL W nB M A) (hl : l ≤ nL) (E : Ec q (PCo l) M M') (hL : CL q nL W nB M' st L) (hb : ∀ j, j < 1024 → mI M' (q 0 11) j = mI M (q 0 11) j) (hD : lD L = 0 → lD (aL A) = 0) : CS q nL W nB M' (A.1, A.2.1, A.2.2.1, A.2.2.2.1, st, L, A.2.2.2.2.2.2) := by
  have hd := sdims hC
  have no : ∀ b j, ¬ (b = 10 ∨ b = 11 ∨ b = 15 ∨ b = 16 ∨ (18 ≤ b ∧ b ≤ 25)) → ¬ PCo l 0 b j := fun b j h1 z => by unfold PCo at z; omega
  obtain ⟨h0, h1, h2, h3, h4, h5, h6⟩ := h
  exact ⟨by rw [(E.1 0 0 0 (no 0 0 (by decide))).1]; exact h0, TpC_ec h1 E (no 0 2 (by decide)) (fun j => no 1 j (by decide)), DrC_ec h2 E (fun j => no 2 j (by decide)) (fun j => no 3 j (by decide)), FetC_ec h3 E (fun j => no 6 j (by decide)) (fun j => no 7 j (by decide)) (fun j => no 8 j (by decide)), GC_ec h4 E (fun b j _ _ => no b j (by omega)), hL, NuC_L (NuC_ec h6 E hb (no 0 8 (by decide)) (no 0 9 (by decide))) hD⟩
theorem l_compact {Y : Ly} {q : Nat → Nat → Nat} {nL W nB : Nat} {M : Mm} {A : AS} {n : Nat} {v : Int32} {Kn : Int32 → Mm → Prop} (hC : SC Y q nL W nB) (hR : SR q nL (mR M)) (hA : Rsl Y q) (hS : CS q nL W nB M A) (hI : AI nL W nB n A) (hK : KC q nL W nB (rComp nL W nB v A) M Kn) : f_L_compact Y (q 0 0) v (q 21 0) M Kn := by
  have hd := sdims hC
  refine ⟨sk_0_0 hC, ?_⟩
  unfold f_X11_compact
  refine ⟨sk_0_0 hC, c_isLog hC hS.1 (fun g1 => ⟨fun _ => ?_, fun z => absurd z (by decide)⟩) (fun g1 => ⟨fun z => absurd rfl z, fun _ => Or.inl ⟨rfl, K_no (by decide) hK (Or.inr ⟨g1, rfl⟩) hS (Ec_refl _ _ _)⟩⟩)⟩
  have hCL := hS.2.2.2.2.2.1
  refine c_power hC hR hCL (fun g4 => ?_) (fun g4 => Or.inr ⟨rfl, K_no (by decide) hK (Or.inl ⟨g1, Or.inr ⟨g4, rfl⟩⟩) hS (Ec_refl _ _ _)⟩)
  obtain ⟨l, hl, rfl⟩ := LgO_n (by omega) g1
  have cl : (nI l).toNatClampNeg = l := nI_clamp (by omega)
  refine ⟨_, sr_0_0_11 hR, _, sr_0_0_10 hR, sk_0_13 hC, _, sr_0_13_1 hR, sk_0_14 hC, by rw [sn_0_14 hC]; exact vp_in_nI (by omega) (by omega), _, by rw [cl]; exact sr_0_14 hR l (by omega), _, sr_0_0_12 hR, sk_0_26 hC, sk_0_18 hC, ?_⟩
  rw [hS.2.2.2.2.1.1]
  refine c_run hC hR (by omega) hI.2.2.2.2.1 hI.2.2.2.2.2.1 hCL g4 (hlf_of hI g4) (fun L' r M' hr C' E' hb => ?_)
  exact K_st hC hA hK (Or.inl ⟨g1, Or.inl ⟨g4, (L', r), by rw [cl]; exact hr, rfl⟩⟩) (CS_co hC hS (by omega) E' C' hb (fun _ => g4)) (Ec_mono E' (fun a b j z => by unfold PCo at z; unfold Pc9; omega))
