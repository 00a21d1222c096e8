/-! compaction by the model -/
def PCm : Nat → Nat → Nat → Prop := fun a b j => a = 20 ∧ ((b = 0 ∧ (j = 5 ∨ j = 6 ∨ j = 7 ∨ j = 18 ∨ j = 25 ∨ (41 ≤ j ∧ j ≤ 53) ∨ j = 64)) ∨ (20 ≤ b ∧ b ≤ 25) ∨ (29 ≤ b ∧ b ≤ 32) ∨ (55 ≤ b ∧ b ≤ 67))
theorem tch_le (n : Nat) : tch 0 n ≤ n := by unfold tch; split <;> omega
theorem wsum_le : ∀ (X : List (List Bt)), wsum X ≤ tot X.flatten
  | [] => Nat.le_refl _
  | g :: X => by
    have := wsum_le X
    have h1 := tch_le (tot g)
    rw [List.flatten_cons, tot_app]
    show tch 0 (tot g) + wsum X ≤ _
    omega
theorem NwA_ef {q : Nat → Nat → Nat} {P : Nat → Nat → Nat → Prop} {M M' : Mm} {hp ht l n : Nat} {B : List Bm} {Sl : List Sg} {now : Int32} (h : NwA q M hp ht l B Sl now n) (e : EfH q P M M') (h63 : ∀ j, ¬ P 20 63 j) (h64 : ∀ j, ¬ P 20 64 j) (hh : ∀ j, ¬ P 20 hp j) : NwA q M' hp ht l B Sl now n := by
  intro i x hi hx hc
  obtain ⟨a, y, w1, w2, w3, w4, w5⟩ := h i x hi hx hc
  exact ⟨a, y, w1, by rw [Ef_I e.1 h63]; exact w2, by rw [Ef_I e.1 h64]; exact w3, by rw [Ef_I e.1 hh]; exact w4, w5⟩
set_option maxRecDepth 20000 in
theorem m_compL {Y : Ly} {q : Nat → Nat → Nat} {nL W nB : Nat} {M : Mm} {st : Nat → Int64} {L : LSt} {l n : Nat} {now : Int32} {Kn : Int32 → Mm → Prop} (hC : SC Y q nL W nB) (hM : SM q (mR M)) (hl : l ≤ nL) (hI : IL nL W nB n st L) (hML : ML q nL W nB M st L) (hD0 : lD L = 0) (hnow : mI M (q 20 0) 4 = now)
    (h : ∀ L' r M', CoR nL W nB l now L L' r → ML q nL W nB M' st L' → Ef q PCm M M' → Kn r M') : f_X12_tidy Y (q 20 0) M (fun M6 => (f_X12_list Y (q 20 0) (nI l) M6 (fun M7 => (f_X12_judge Y (q 20 0) (nI l) M7 (fun M8 => (∃ n, LOOP2 (L_X12_compact_44 Y (q 20 0) (nI l) Kn M8) n 0 0)))))) := by
  have hd := sdims hC
  have hG := hI.1
  have hOK := hI.2.1
  have hlf := IL_lf hI hD0
  obtain ⟨⟨B0, hp0, ht0, hLM0⟩, w6, w7, w5⟩ := hML
  refine m_tidyL hC hM hG hLM0 (fun M6 hLM6 htl E6 => ?_)
  obtain ⟨B, eB⟩ : ∃ B, B = rt 0 B0 := ⟨_, rfl⟩
  obtain ⟨hp, ehp⟩ : ∃ hp, hp = 49 - hp0 := ⟨_, rfl⟩
  obtain ⟨ht, eht⟩ : ∃ ht, ht = tl B0 := ⟨_, rfl⟩
  rw [← eB, ← ehp, ← eht] at hLM6
  rw [← eht] at htl
  have hM6 := Ef_SM E6 hM
  have hlk := hLM6.2.2.2.2.2.2.2.2
  have hp24 : hp = 24 ∨ hp = 25 := hLM6.2.2.2.2.1.1
  have hbd := Rm_bd hG hOK hlk hl hd.2.2.2.2.2
  have E6' : Ef q PCm M M6 := Ef_mono E6 (fun a b j z => by unfold PTd at z; unfold PCm; omega)
  refine m_list hC hM6 hG hLM6 hOK (now := now) hl (by rw [Ef_i E6 (by unfold PTd; omega)]; exact hnow) (fun M7 E7 n7 r7 g7 => ?_)
  have hLM7 := PLs_LogM hLM6 E7
  have hM7 := Ef_SM E7.1 hM6
  refine m_judge hC hM7 hG hLM7 hOK hl n7 r7 g7 (fun M8 E8 g8 => ?_)
  have hLM8 := PJ_LogM hLM7 E8
  have hM8 := Ef_SM E8.1 hM7
  have n8 : mI M8 (q 20 0) 53 = nI (Rm l B).length := by rw [Ef_i E8.1 (by unfold PJ; omega)]; exact n7
  have r8 := PJ_Rec r7 E8
  have E8' : Ef q PCm M M8 := Ef_trans E6' (Ef_trans (Ef_mono E7.1 (fun a b j z => by unfold PLs at z; unfold PCm; omega)) (Ef_mono E8.1 (fun a b j z => by unfold PJ at z; unfold PCm; omega)))
  -- what is closed
  obtain ⟨Sc, hSO⟩ : ∃ Sc, ScO (lS L l) Sc := by
    rcases snoc_cases (lS L l) with e | ⟨S0, so, e⟩
    · exact ⟨[], Or.inr ⟨e, rfl⟩⟩
    · exact ⟨S0, Or.inl ⟨so, e⟩⟩
  obtain ⟨hle1, hle2⟩ := ScO_le hSO
  obtain ⟨os, eos⟩ : ∃ os, os = koz (aq (PS (lS L l))) now (BS (lS L l)) (PS Sc) := ⟨_, rfl⟩
  have hcg := cG_eq hG hOK hlk hl hd.2.2.1 hSO g8 B.length (Nat.le_refl _)
  rw [List.take_of_length_le (Nat.le_refl B.length), jx_all hlk hl, List.take_of_length_le (show (PS Sc).length ≤ (BS (lS L l)).length by rw [PS_len]; omega)] at hcg
  obtain ⟨gn, egn⟩ : ∃ gn, gn = gnz (aq (PS (lS L l))) now (PS Sc) := ⟨_, rfl⟩
  rw [← egn] at hcg
  have hgn : gn < 40000 := by
    have := cG_le (mI M8 (q 20 60)) (Rm l B).length
    omega
  have hosl : os.length = (BS Sc).length := by rw [eos, koz_len, PS_len]
  have hct := Geo_count hG hl
  rw [PS_len] at hct
  have hls : lsz os ≤ (BS Sc).length := by rw [← hosl]; exact lsz_le os
  refine m_gone (N := (Rm l B).length) hC hM8 hbd n8 ?_
  rw [hcg]
  have hin : ∀ x, x ∈ PS Sc → x ∈ PS (lS L l) := fun x hx => by
    rcases hSO with ⟨so, hS⟩ | ⟨h1, h2⟩
    · rw [hS, PS_app]; exact List.mem_append_left _ hx
    · rw [h2] at hx; cases hx
  have hbat : ∀ x, x ∈ PS Sc → BatOK x.2 := fun x hx => hOK l hl x.2 (by rw [← PS_snd]; exact List.mem_map_of_mem (hin x hx))
  have hsegm : ∀ s, s ∈ Sc → s ∈ lS L l := fun s hs => by
    rcases hSO with ⟨so, hS⟩ | ⟨h1, h2⟩
    · rw [hS]; exact List.mem_append_left _ hs
    · rw [h2] at hs; cases hs
  have hshr : Shr (BS Sc) os := by rw [eos, ← PS_snd]; exact koz_Shr hbat
  have hseg : ∀ s, s ∈ Sc → sz s ≤ W * 1024 := fun s hs => ((hG.1 l hl).2 s (hsegm s hs)).2.2.1
  have hpl : (pkf W [] os).length ≤ Sc.length := by
    have := PkB_all (W := W) (t := 0) (X := []) hshr hseg (Nat.le_refl _)
    omega
  have hkI : ∀ i, PkI W (pkf W [] (os.take i)) := fun i => PkI_f (fun g hg => by cases hg) (fun b hb => by
    obtain ⟨j, hj⟩ := List.getElem?_of_mem (List.mem_of_mem_take hb)
    obtain ⟨x, hx⟩ := lt_some (show j < (PS Sc).length by have := some_lt hj; rw [PS_len]; omega)
    rw [eos, koz_at hx] at hj
    have hxm := List.mem_of_getElem? hx
    have h1 := (kop_len (hbat x hxm) (Option.some.inj hj)).2.2
    obtain ⟨s, hs, h2, h3, h4⟩ := PS_in hxm
    have h5 := hseg s hs
    omega)
  have hXt : tot (pkf W [] os).flatten ≤ nB * 1024 := by
    have h1 := Shr_tot hshr os.length
    rw [List.take_of_length_le (Nat.le_refl _), hosl, List.take_of_length_le (Nat.le_refl _)] at h1
    have h2 : tot (BS (lS L l)) ≤ nB * 1024 := by rw [BS_tot]; exact Geo_szs hG hl
    rw [pkf_flat]
    show tot (os.filterMap id) ≤ _
    omega
  have hws := wsum_le (pkf W [] os)
  have keep567 : ∀ {M' : Mm}, (∀ j, j = 5 ∨ j = 6 ∨ j = 7 → mI M' (q 20 0) j = mI M8 (q 20 0) j) → mI M' (q 20 0) 6 = lW L ∧ mI M' (q 20 0) 7 = lL L ∧ mI M' (q 20 0) 5 = lD L := by
    intro M' hz
    have z8 : ∀ j, j = 5 ∨ j = 6 ∨ j = 7 → mI M8 (q 20 0) j = mI M (q 20 0) j := fun j hj => by
      rw [Ef_i E8.1 (by unfold PJ; omega), Ef_i E7.1 (by unfold PLs; omega), Ef_i E6 (by unfold PTd; omega)]
    exact ⟨by rw [hz 6 (by omega), z8 6 (by omega)]; exact w6, by rw [hz 7 (by omega), z8 7 (by omega)]; exact w7, by rw [hz 5 (by omega), z8 5 (by omega)]; exact w5⟩
  refine m_strips hC hM8 hG hLM8 hOK hl hSO eos htl n8 r8 g8 (fun M15 ht' E15 hLM15 nw15 => ?_)
  have hM15 := Ef_SM E15.1 hM8
  have E15' : Ef q PCm M M15 := Ef_trans E8' (Ef_mono E15.1 (fun a b j z => by unfold PSp at z; unfold PCm; omega))
  have k15 := keep567 (M' := M15) (fun j hj => Ef_i E15.1 (by unfold PSp; omega))
  rw [nI_add, nIeq (x := 0) (b := 0) rfl (by omega) (by decide)]
  refine ⟨fun c => ?_, fun c => ?_⟩
  rotate_left
  · refine h L 0 M15 ?_ ⟨⟨B, hp, ht', hLM15⟩, k15⟩ E15'
    by_cases z : (lS L l).length < 2
    · exact Or.inl ⟨z, rfl, rfl⟩
    · rcases hSO with ⟨so, hS⟩ | ⟨h1, -⟩
      · refine Or.inr ⟨Sc, so, os, gn, pkf W [] os, hS, ?_, eos, egn, rfl, Or.inl ⟨by omega, by omega, rfl, rfl⟩⟩
        intro e
        rw [hS, e] at z; exact z (by simp)
      · rw [h1] at z; exact absurd (by simp) z
  have hSc0 : Sc ≠ [] := fun e => by
    rw [e] at egn eos
    have e1 : gn = 0 := egn
    have e2 : os = [] := eos
    rw [e1, e2] at c
    exact c rfl
  obtain ⟨so, hS⟩ : ∃ so, lS L l = Sc ++ [so] := by
    rcases hSO with hh | ⟨-, h2⟩
    · exact hh
    · exact absurd h2 hSc0
  have hlenS : (lS L l).length = Sc.length + 1 := by rw [hS, List.length_append, List.length_singleton]
  have h60 := (hG.1 l hl).1
  have hn0 : ¬ (gn = 0 ∧ lsz os = 0) := fun z => c (by omega)
  obtain ⟨X, eX⟩ : ∃ X, X = pkf W [] os := ⟨_, rfl⟩
  refine m_plan hC hM15 hG hLM15 hOK hl hSO eos nw15 hkI (by omega) (fun M18 ks E18 hr hpa => ⟨fun _ => ?_, fun z => absurd z (by decide)⟩) (fun M18 E18 hN => ⟨fun z => absurd rfl z, fun _ => ?_⟩)
  rotate_left
  · refine h L (-2) M18 (Or.inr ⟨Sc, so, os, gn, pkf W [] os, hS, hSc0, eos, egn, rfl, Or.inr ⟨hn0, Or.inl ⟨hN, rfl, rfl⟩⟩⟩) ⟨⟨B, hp, ht', PPl_LogM hLM15 E18⟩, keep567 (fun j hj => ?_)⟩ (Ef_trans E15' (Ef_mono E18.1 (fun a b j z => by unfold PPl at z; unfold PCm; omega)))
    rw [Ef_i E18.1 (by unfold PPl; omega), Ef_i E15.1 (by unfold PSp; omega)]
  have hLM18 := PPl_LogM hLM15 E18
  have hM18 := Ef_SM E18.1 hM15
  have E18' : Ef q PCm M M18 := Ef_trans E15' (Ef_mono E18.1 (fun a b j z => by unfold PPl at z; unfold PCm; omega))
  have k18 := keep567 (M' := M18) (fun j hj => by rw [Ef_i E18.1 (by unfold PPl; omega), Ef_i E15.1 (by unfold PSp; omega)])
  have nw18 : NwA q M18 hp ht' l B (lS L l) now B.length := NwA_ef nw15 E18 (fun j => by unfold PPl; omega) (fun j => by unfold PPl; omega) (fun j => by unfold PPl; omega)
  rw [← eX] at hpa hws hXt hpl
  refine LOOP3_inv (fun x21 x22 M23 => M23 = M18 ∧ ∃ s, s ≤ X.length ∧ x22 = nI s ∧ x21 = nI (1 + wsum (X.take s))) (fun _ x22 _ => X.length - x22.toNatClampNeg) ?_ _ _ _ ⟨rfl, 0, by omega, rfl, rfl⟩
  rintro x21 x22 M23 again ⟨e23, s, hs, rfl, rfl⟩ hag
  subst e23
  have hwt : wsum (X.take s) ≤ wsum X := by rw [wsum_d X s]; omega
  unfold L_X12_compact_164
  rw [hpa.1, nI_cmp (by omega) (by omega)]
  refine ⟨fun c2 => ?_, fun c2 => ?_⟩
  · have es : s = X.length := by omega
    subst es
    rw [List.take_of_length_le (Nat.le_refl _)]
    refine m_spend (n := 1 + wsum X) (sk_20_0 hC) (by omega) (by rw [k18.2.1]; exact hlf) ?_
    intro l' ad dn full hSp r hr1 hrf
    rw [k18.2.1, Nat.add_comm] at hSp
    obtain ⟨M25, e25⟩ : ∃ M25, M25 = sI M23 (q 20 0) (m1 (m1 (m1 (mI M23 (q 20 0)) 6 (mI M23 (q 20 0) 6 + nI ad)) 7 l') 5 dn) := ⟨_, rfl⟩
    rw [← e25]
    have z25 : mI M25 (q 20 0) = m1 (m1 (m1 (mI M23 (q 20 0)) 6 (mI M23 (q 20 0) 6 + nI ad)) 7 l') 5 dn := by rw [e25, mI_sI_self]
    have R25 : mR M25 = mR M23 := by rw [e25]; rfl
    have E25 : EfH q (fun a b j => a = 20 ∧ b = 0 ∧ (j = 5 ∨ j = 6 ∨ j = 7)) M23 M25 := by
      refine ⟨⟨fun a b j hn => ?_, fun x _ => by rw [R25], fun f _ _ _ => by rw [R25]⟩, by rw [R25], by rw [R25]⟩
      refine ⟨?_, by rw [e25]; rfl⟩
      by_cases e : a = 20 ∧ b = 0
      · obtain ⟨rfl, rfl⟩ := e
        rw [z25]; simp only [m1]; rw [if_neg (by omega), if_neg (by omega), if_neg (by omega)]
      · rw [e25, I_ne hC _ _ e]
    have hLM25 := LogM_ef hLM18 E25 (fun a b j z => by unfold PLg at z; omega)
    have hM25 := Ef_SM E25.1 hM18
    have nw25 : NwA q M25 hp ht' l B (lS L l) now B.length := NwA_ef nw18 E25 (fun j => by omega) (fun j => by omega) (fun j => by omega)
    have E25' : Ef q PCm M M25 := Ef_trans E18' (Ef_mono E25.1 (fun a b j z => by unfold PCm; omega))
    have pa25 : PLA q M25 ks X := ⟨by rw [Ef_i E25.1 (by omega)]; exact hpa.1, hpa.2.1, by rw [Ef_I E25.1 (fun j => by omega)]; exact hpa.2.2.1, by rw [Ef_I E25.1 (fun j => by omega)]; exact hpa.2.2.2⟩
    have y5 : mI M25 (q 20 0) 5 = dn := by rw [z25]; simp [m1]
    have y6 : mI M25 (q 20 0) 6 = lW L + nI ad := by rw [z25]; simp only [m1]; rw [if_neg (by decide), if_neg (by decide), if_pos trivial, k18.1]
    have y7 : mI M25 (q 20 0) 7 = l' := by rw [z25]; simp [m1]
    have mkC : ∀ L', ((full ∧ L' = (lE L, m1 (lS L) l (ks.zip X ++ [so]), l', lW L + nI ad, dn)) ∨ (¬ full ∧ L' = (lE L, lS L, l', lW L + nI ad, dn))) → CoR nL W nB l now L L' (if dn = 0 then nI gn else -3) := fun L' hL' => Or.inr ⟨Sc, so, os, gn, X, hS, hSc0, eos, egn, eX, Or.inr ⟨hn0, Or.inr ⟨ks, l', ad, dn, full, hr, hpa.2.1, hSp, hL', rfl⟩⟩⟩
    refine ⟨fun c3 => ?_, fun c3 => ?_⟩
    · have hnf : ¬ full := fun z => by rw [hrf.mpr z] at c3; exact absurd c3 (by decide)
      have key := h _ _ M25 (mkC _ (Or.inr ⟨hnf, rfl⟩)) ⟨⟨B, hp, ht', hLM25⟩, y6, y7, y5⟩ E25'
      unfold f_X12_compact_209 f_X12_compact_222
      rw [y5]
      exact ⟨fun z => by rwa [if_pos z] at key, fun z => by rwa [if_neg z] at key⟩
    · have hf : full := hrf.mp (hr1.resolve_left c3)
      rw [eX] at pa25
      refine m_happen hC hM25 hG hLM25 hOK hl hS eos nw25 pa25 (by rw [← eX]; omega) hkI (fun M31 B' E31 hLM31 => ?_)
      rw [← eX] at hLM31
      have z31 : ∀ j, j ≠ 18 → mI M31 (q 20 0) j = mI M25 (q 20 0) j := fun j hj => Ef_i E31.1 (by unfold PHp; omega)
      have key := h _ _ M31 (mkC _ (Or.inl ⟨hf, rfl⟩)) ⟨⟨B', hp, ht', hLM31⟩, by rw [z31 6 (by decide)]; exact y6, by rw [z31 7 (by decide)]; exact y7, by rw [z31 5 (by decide)]; exact y5⟩ (Ef_trans E25' (Ef_mono E31.1 (fun a b j z => by unfold PHp at z; unfold PCm; omega)))
      unfold f_X12_compact_209 f_X12_compact_222
      rw [z31 5 (by decide), y5]
      exact ⟨fun z => by rwa [if_pos z] at key, fun z => by rwa [if_neg z] at key⟩
  · obtain ⟨g, hg⟩ := lt_some (show s < X.length by omega)
    have hgI : tot g ≤ W * 1024 := by
      have := hkI os.length
      rw [List.take_of_length_le (Nat.le_refl _), ← eX] at this
      exact (this g (List.mem_of_getElem? hg)).2
    have hW : W * 1024 ≤ 16 * 1024 := Nat.mul_le_mul_right _ hd.2.2.2.1
    refine ⟨_, sm_66 hM18, sk_20_67 hC, by rw [sn_20_67 hC]; exact vp_in_nI (by omega) (by decide), ?_⟩
    rw [nI_clamp (by omega), Ar_map hpa.2.2.2 hg]
    refine m_touched (x := 0) (by omega) ?_
    intro x37 e37 x38 e38
    rw [nI_add, Nat.add_assoc, ← wsum_s hg] at e37
    rw [nI_1] at e38
    subst e37 e38
    exact hag _ _ _ ⟨rfl, s + 1, by omega, rfl, rfl⟩ (by rw [nI_clamp (by omega), nI_clamp (by omega)]; omega)
theorem MS_cm {Y : Ly} {q : Nat → Nat → Nat} {nL W nB : Nat} {M M' : Mm} {A : AS} {st : Nat → Int64} {L : LSt} (hC : SC Y q nL W nB) (h : MS q nL W nB M A) (F : Ef q PCm M M') (hL : ML q nL W nB M' st L) : MS q nL W nB M' (A.1, A.2.1, A.2.2.1, A.2.2.2.1, st, L, A.2.2.2.2.2.2) := by
  obtain ⟨h1, h2, h3, h4, h5, h6, h7⟩ := h
  exact ⟨TpM_ec h1 F (by unfold PCm; omega) (fun j => by unfold PCm; omega), DrM_ec h2 F (by unfold PCm; omega) (fun b j _ _ => by unfold PCm; omega), FetM_ec h3 F (by unfold PCm; omega) (fun j => by unfold PCm; omega), GM_ef hC h4 F (by unfold PCm; omega) (fun b j _ _ => by unfold PCm; omega), hL, by rw [(F.1 20 0 8 (by unfold PCm; omega)).2]; exact h6, by rw [(F.1 20 0 9 (by unfold PCm; omega)).2]; exact h7⟩
theorem n_compact {Y : Ly} {q : Nat → Nat → Nat} {nL W nB : Nat} {M : Mm} {A : AS} {n : Nat} {v : Int32} {Kn : Int64 → Mm → Prop} (hC : SC Y q nL W nB) (hM : SM q (mR M)) (hS : MS q nL W nB M A) (hI : AI nL W nB n A) (hK : KM q nL W nB (rComp nL W nB v A) M Kn) : f_X12_compact Y (q 20 0) v M (fun r M' => Kn r.toInt64 M') := by
  have hd := sdims hC
  have no : ¬ LgO (nL + 1) v → f_X12_compact_18 Y (q 20 0) v M (fun r M' => Kn r.toInt64 M') 0 := by
    intro g
    unfold f_X12_compact_18
    exact ⟨sk_20_0 hC, m_goes hC (fun z => absurd rfl z) (fun z => absurd rfl z) (fun _ => ⟨fun z => absurd rfl z, fun _ => M_no hC (by decide) hK (Or.inr ⟨g, rfl⟩) hS⟩)⟩
  have w1 : mI M (q 20 0) 1 = nI nL := by obtain ⟨B, hp, ht, hLM⟩ := hS.2.2.2.2.1.1; exact hLM.1.1
  have w5 : mI M (q 20 0) 5 = lD (aL A) := hS.2.2.2.2.1.2.2.2
  unfold f_X12_compact f_X12_compact_17
  rw [w1]
  refine ⟨fun g => no (fun z => Int32.not_lt.mpr z.1 g), fun g0 => ⟨sk_20_0 hC, fun g => no (fun z => ?_), fun g1 => ?_⟩⟩
  · have := (LgO_s (by omega)).mpr z
    exact Int32.not_lt.mpr this.2 g
  have gl : LgO (nL + 1) v := (LgO_s (by omega)).mp ⟨Int32.not_lt.mp g0, Int32.not_lt.mp g1⟩
  unfold f_X12_compact_18
  refine ⟨sk_20_0 hC, m_goes hC (fun _ g => ⟨fun _ => ?_, fun z => absurd z (by decide)⟩) (fun _ g => ⟨fun z => absurd rfl z, fun _ => M_no hC (by decide) hK (Or.inl ⟨gl, Or.inr ⟨by rw [← w5]; exact g, rfl⟩⟩) hS⟩) (fun z => absurd z (by decide))⟩
  rw [w5] at g
  have S2 := cd_MS hC hS 0
  have E2 : Ef q Pm20 M (cd q M 0) := (Ec_H (cd_Ec hC 0 rfl)).1
  obtain ⟨l, hl, rfl⟩ := LgO_n (by omega) gl
  have cl : (nI l).toNatClampNeg = l := nI_clamp (by omega)
  refine m_compL (M := cd q M 0) (now := nI (gT (aG A))) hC hM (by omega) hI.2.2.2.2 S2.2.2.2.2.1 g S2.2.2.2.1.1 (fun L' r M' hr C' E' => ?_)
  have z' : mI M' (q 20 0) 0 = 0 := by rw [(E'.1 20 0 0 (by unfold PCm; omega)).1]; exact cd_0 _ _ _
  exact hK (0, r.toInt64, _) _ _ (Or.inl ⟨gl, Or.inl ⟨g, (L', r), by rw [cl]; exact hr, rfl⟩⟩) (MS_cm hC S2 E' C') (Ef_trans E2 (Ef_mono E' (fun a b j z => z.1))) z' (fun _ => rfl)
