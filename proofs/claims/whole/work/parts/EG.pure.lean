/-! closed batches by their number; how many records go -/
theorem mb_s {l i : Nat} {B : List Bm} {x : Bm} (hx : B[i]? = some x) : mb l (B.take (i + 1)) = mb l (B.take i) ++ (if mL x = l then [mB x] else []) := by
  unfold mb ofL
  rw [take_s hx, List.filter_append, List.map_append]
  by_cases z : mL x = l
  · rw [List.filter_cons_of_pos (by rw [decide_eq_true_eq]; exact z), if_pos z]; rfl
  · rw [List.filter_cons_of_neg (by rw [decide_eq_true_eq]; exact z), if_neg z]; rfl
def jx (l : Nat) (B : List Bm) (i : Nat) : Nat := (mb l (B.take i)).length
theorem jx_s {l i : Nat} {B : List Bm} {x : Bm} (hx : B[i]? = some x) : jx l B (i + 1) = jx l B i + (if mL x = l then 1 else 0) := by
  unfold jx
  rw [mb_s hx, List.length_append]
  by_cases z : mL x = l
  · rw [if_pos z, if_pos z]; rfl
  · rw [if_neg z, if_neg z]; rfl
theorem ofL_at {l i : Nat} {B : List Bm} {x : Bm} (hx : B[i]? = some x) (hl : mL x = l) : (ofL l B)[jx l B i]? = some x := by
  have e : ofL l B = ofL l (B.take i) ++ x :: ofL l (B.drop (i + 1)) := by
    have h1 : B = B.take i ++ x :: B.drop (i + 1) := by
      obtain ⟨h1, e1⟩ := List.getElem?_eq_some_iff.mp hx
      rw [← e1, ← List.drop_eq_getElem_cons h1, List.take_append_drop]
    unfold ofL
    conv => lhs; rw [h1]
    rw [List.filter_append, List.filter_cons_of_pos (by rw [decide_eq_true_eq]; exact hl)]
  have hj : jx l B i = (ofL l (B.take i)).length := by unfold jx mb; rw [List.length_map]
  rw [e, hj, List.getElem?_append_right (Nat.le_refl _), Nat.sub_self]; rfl
theorem SB_app (S T : List Sg) : SB (S ++ T) = SB S ++ SB T := by simp [SB]
theorem SB_len (S : List Sg) : (SB S).length = (BS S).length := by rw [← SB_BS, List.length_map]
def ScO (Sl Sc : List Sg) : Prop := (∃ so, Sl = Sc ++ [so]) ∨ (Sl = [] ∧ Sc = [])
theorem clo_ix {nL W nB l i : Nat} {S : Nat → List Sg} {B : List Bm} {x : Bm} {Sc : List Sg} (hG : Geo nL W nB S) (hl : l ≤ nL) (hW : 1 ≤ W) (hk : Lnk nL S B) (hS : ScO (S l) Sc) (hx : B[i]? = some x) : clo (S l) l x ↔ mL x = l ∧ jx l B i < (BS Sc).length := by
  by_cases hxl : mL x = l
  · have hU : (SB (S l))[jx l B i]? = some (mS x, mB x) := by
      rw [← hk.2 l hl, List.getElem?_map, ofL_at hx hxl]; rfl
    rcases hS with ⟨so, hS⟩ | ⟨hS, -⟩
    · rw [hS, SB_app] at hU
      constructor
      · intro h
        refine ⟨hxl, ?_⟩
        by_cases z : jx l B i < (BS Sc).length
        · exact z
        · exfalso
          rw [List.getElem?_append_right (by rw [SB_len]; omega)] at hU
          have hm := List.mem_of_getElem? hU
          obtain ⟨s, h1, h2, h3⟩ := SB_mem hm
          rw [List.mem_singleton] at h1
          exact h.2 Sc so hS (by rw [← h2, h1])
      · rintro ⟨-, h⟩
        refine ⟨hxl, fun S0 s e c => ?_⟩
        rw [hS] at e
        obtain ⟨-, e2⟩ := snoc_inj e
        rw [List.getElem?_append_left (by rw [SB_len]; exact h)] at hU
        obtain ⟨s', h1, h2, h3⟩ := SB_mem (List.mem_of_getElem? hU)
        refine Geo_dis (n := Sc.length) hG hl hW (k := so.1) ?_ ?_
        · rw [hS, List.take_append_of_le_length (Nat.le_refl _), List.take_length, List.mem_map]
          exact ⟨s', h1, by rw [h2, c, e2]⟩
        · rw [hS, List.drop_left, List.mem_map]
          exact ⟨so, by simp, rfl⟩
    · rw [hS] at hU; cases hU
  · exact ⟨fun z => absurd z.1 hxl, fun z => absurd z.1 hxl⟩
def cG (f : Nat → Int32) : Nat → Nat
  | 0 => 0
  | r + 1 => cG f r + if f r = 0 then 0 else 1
theorem cG_le (f : Nat → Int32) : ∀ r, cG f r ≤ r
  | 0 => Nat.le_refl _
  | r + 1 => by
    have := cG_le f r
    show cG f r + (if f r = 0 then 0 else 1) ≤ _
    by_cases z : f r = 0
    · rw [if_pos z]; omega
    · rw [if_neg z]; omega
theorem PS_y {nL W nB l i : Nat} {S : Nat → List Sg} {B : List Bm} {x : Bm} {Sc : List Sg} (hk : Lnk nL S B) (hl : l ≤ nL) (hS : ScO (S l) Sc) (hx : B[i]? = some x) (hxl : mL x = l) : ∃ y, (PS (S l))[jx l B i]? = some y ∧ y.2 = mB x ∧ (jx l B i < (BS Sc).length → (PS Sc)[jx l B i]? = some y) := by
  have h1 := (mb_take hx hxl).1
  rw [mb_BS hk hl, ← PS_snd, List.getElem?_map] at h1
  cases e : (PS (S l))[jx l B i]? with
  | none =>
    have e' : (PS (S l))[(mb l (B.take i)).length]? = none := e
    rw [e'] at h1; cases h1
  | some y =>
    have e' : (PS (S l))[(mb l (B.take i)).length]? = some y := e
    rw [e'] at h1
    refine ⟨y, rfl, Option.some.inj h1, fun hj => ?_⟩
    rcases hS with ⟨so, hS⟩ | ⟨hS, -⟩
    · rw [hS, PS_app, List.getElem?_append_left (by rw [PS_len]; exact hj)] at e
      exact e
    · rw [hS] at e; cases e
theorem cG_eq {nL W nB l : Nat} {S : Nat → List Sg} {B : List Bm} {Sc : List Sg} {f : Nat → Int32} {now : Int32} (hG : Geo nL W nB S) (hOK : LogOK nL S) (hk : Lnk nL S B) (hl : l ≤ nL) (hW : 1 ≤ W) (hS : ScO (S l) Sc) (hgo : GoF f (fun r e => (tmb now e ∨ dm ((Rm l B).map kyE) r) ∧ clo (S l) l e.2.1) (Rm l B)) : ∀ i, i ≤ B.length → cG f (Rm l (B.take i)).length = gnz (aq (PS (S l))) now ((PS Sc).take (jx l B i))
  | 0, _ => by
    rw [show jx l B 0 = 0 from by simp [jx, mb, ofL], List.take_zero, List.take_zero]; rfl
  | i + 1, hi => by
    have ih := cG_eq hG hOK hk hl hW hS hgo i (by omega)
    obtain ⟨x, hx⟩ := lt_some (show i < B.length by omega)
    rw [Rm_s hx, jx_s hx]
    by_cases hxl : mL x = l
    · rw [if_pos hxl, if_pos hxl, List.length_append, rcs_len]
      have hbx : BatOK (mB x) := by
        obtain ⟨s, h1, h2, h3⟩ := Lnk_mem hk (List.mem_of_getElem? hx)
        rw [hxl] at h1
        exact hOK l hl _ (List.mem_flatMap.mpr ⟨s, h1, h3⟩)
      obtain ⟨y, hy, ey, hyc⟩ := PS_y (W := W) (nB := nB) hk hl hS hx hxl
      have hci := clo_ix hG hl hW hk hS hx
      by_cases hc : jx l B i < (BS Sc).length
      · have hclo := hci.mpr ⟨hxl, hc⟩
        have key : ∀ k, k ≤ (rsB (mB x)).length → cG f ((Rm l (B.take i)).length + k) + (kst (aq (PS (S l))) now y.1 (mB x) k).2.1 = cG f (Rm l (B.take i)).length + k := by
          intro k
          induction k with
          | zero => intro _; rfl
          | succ k ihk =>
            intro hk1
            have ihk := ihk (by omega)
            obtain ⟨c, hcc⟩ := lt_some (show k < (rsB (mB x)).length by omega)
            have g := (gon_m (now := now) hG hOK hk hl hW hx hxl hy hcc).2
            have hat := Rm_ix hx hxl hcc
            show cG f ((Rm l (B.take i)).length + k) + (if f ((Rm l (B.take i)).length + k) = 0 then 0 else 1) + _ = _
            rcases hgo _ _ hat with ⟨a1, a2⟩ | ⟨a1, a2⟩
            · rw [a1, if_neg (by decide), kst_y hcc (g.mpr a2.1)]; omega
            · have ng : ¬ gon (aq (PS (S l))) now (ftB (mB x)) (rq (mB x) y.1 k c) c := fun z => a2 ⟨g.mp z, hclo⟩
              rw [a1, if_pos rfl, kst_n hcc ng]
              show cG f ((Rm l (B.take i)).length + k) + 0 + ((kst (aq (PS (S l))) now y.1 (mB x) k).2.1 + 1) = _
              omega
        have hfin := key _ (Nat.le_refl _)
        rw [gnz_s (hyc hc), ← ih]
        have ek : kcn (aq (PS (S l))) now y = (kst (aq (PS (S l))) now y.1 (mB x) (rsB (mB x)).length).2.1 := by unfold kcn; rw [ey]
        have hle := (kst_le (Q := aq (PS (S l))) (now := now) (p := y.1) hbx _ (Nat.le_refl _)).2
        rw [ey, ek]
        omega
      · have hnc : ¬ clo (S l) l x := fun z => hc (hci.mp z).2
        have key : ∀ k, k ≤ (rsB (mB x)).length → cG f ((Rm l (B.take i)).length + k) = cG f (Rm l (B.take i)).length := by
          intro k
          induction k with
          | zero => intro _; rfl
          | succ k ihk =>
            intro hk1
            have ihk := ihk (by omega)
            obtain ⟨c, hcc⟩ := lt_some (show k < (rsB (mB x)).length by omega)
            have hat := Rm_ix hx hxl hcc
            show cG f ((Rm l (B.take i)).length + k) + (if f ((Rm l (B.take i)).length + k) = 0 then 0 else 1) = _
            rcases hgo _ _ hat with ⟨a1, a2⟩ | ⟨a1, a2⟩
            · exact absurd a2.2 hnc
            · rw [a1, if_pos rfl, ihk]; rfl
        rw [key _ (Nat.le_refl _), ih, List.take_of_length_le (by rw [PS_len]; omega), List.take_of_length_le (by rw [PS_len]; omega)]
    · rw [if_neg hxl, if_neg hxl, List.append_nil, Nat.add_zero]
      exact ih
theorem jx_all {nL l : Nat} {S : Nat → List Sg} {B : List Bm} (hk : Lnk nL S B) (hl : l ≤ nL) : jx l B B.length = (BS (S l)).length := by
  unfold jx
  rw [List.take_of_length_le (Nat.le_refl _), mb_BS hk hl]
theorem ScO_le {Sl Sc : List Sg} (h : ScO Sl Sc) : (BS Sc).length ≤ (BS Sl).length ∧ tot (BS Sc) ≤ tot (BS Sl) := by
  rcases h with ⟨so, h⟩ | ⟨h1, h2⟩
  · rw [h, BS_app, List.length_append, tot_app]; exact ⟨by omega, by omega⟩
  · rw [h1, h2]; exact ⟨Nat.le_refl _, Nat.le_refl _⟩
theorem m_gone {Y : Ly} {q : Nat → Nat → Nat} {nL W nB : Nat} {M : Mm} {l : Nat} {N : Nat} {Kn : Int32 → Mm → Prop} (hC : SC Y q nL W nB) (hM : SM q (mR M)) (hN : N < 40000) (h53 : mI M (q 20 0) 53 = nI N) (h : ∃ n, LOOP4 (L_X12_compact_83 Y (q 20 0) (nI l) Kn (nI (cG (mI M (q 20 60)) N))) n 0 0 0 M) : ∃ n, LOOP2 (L_X12_compact_44 Y (q 20 0) (nI l) Kn M) n 0 0 := by
  refine LOOP2_inv (fun x9 x10 => ∃ r, r ≤ N ∧ x10 = nI r ∧ x9 = nI (cG (mI M (q 20 60)) r)) (fun _ x10 => N - x10.toNatClampNeg) ?_ _ _ ⟨0, by omega, rfl, rfl⟩
  rintro x9 x10 again ⟨r, hr, rfl, rfl⟩ hag
  have hle := cG_le (mI M (q 20 60)) r
  unfold L_X12_compact_44 f_X12_compact_67
  rw [h53, nI_cmp (by omega) (by omega)]
  refine ⟨fun c => ?_, fun c => ?_⟩
  · have e : r = N := by omega
    rw [e]; exact h
  · have cr : (nI r).toNatClampNeg = r := nI_clamp (by omega)
    refine ⟨_, sm_59 hM, sk_20_60 hC, by rw [sn_20_60 hC]; exact vp_in_nI (by omega) (by decide), ?_⟩
    rw [cr]
    refine ⟨fun c2 x59 e59 x60 e60 => ?_, fun c2 x59 e59 x60 e60 => ?_⟩
    · rw [Int32.add_zero] at e59
      rw [nI_1] at e60
      subst e59 e60
      refine hag _ _ ⟨r + 1, by omega, rfl, ?_⟩ (by rw [nI_clamp (by omega), nI_clamp (by omega)]; omega)
      show _ = nI (cG (mI M (q 20 60)) r + if mI M (q 20 60) r = 0 then 0 else 1)
      rw [if_pos c2, Nat.add_zero]
    · rw [nI_1] at e59
      rw [nI_1] at e60
      subst e59 e60
      refine hag _ _ ⟨r + 1, by omega, rfl, ?_⟩ (by rw [nI_clamp (by omega), nI_clamp (by omega)]; omega)
      show _ = nI (cG (mI M (q 20 60)) r + if mI M (q 20 60) r = 0 then 0 else 1)
      rw [if_neg c2]
