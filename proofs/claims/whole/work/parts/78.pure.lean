/-! what was fetched -/
def tot (fs : List Bt) : Nat := (fs.map List.length).sum
theorem tot_s (fs : List Bt) (b : Bt) : tot (fs ++ [b]) = tot fs + b.length := by simp [tot]
theorem pbs_s (fs : List Bt) (b : Bt) : pbs 0 (fs ++ [b]) = pbs 0 fs ++ [(tot fs, b)] := by
  rw [pbs_app, Nat.zero_add]; rfl
def FetC (q : Nat → Nat → Nat) (M : Mm) (fs : List Bt) : Prop := mI M (q 0 6) 1 = nI (tot fs) ∧ mI M (q 0 6) 2 = nI fs.length ∧ Ar (mI M (q 0 8)) ((pbs 0 fs).map (fun p => p.1)) ∧ ∀ p, p ∈ pbs 0 fs → Lie (mI M (q 0 7)) p.1 p.2
def FetM (q : Nat → Nat → Nat) (M : Mm) (fs : List Bt) : Prop := mI M (q 20 0) 33 = nI (tot fs) ∧ ∀ p, p ∈ pbs 0 fs → Lie (mI M (q 20 33)) p.1 (m8 p.2)
def FetOK (fs : List Bt) : Prop := tot fs ≤ 32768 ∧ ∀ b, b ∈ fs → BatOK b
theorem tot_61 : ∀ {fs : List Bt}, (∀ b, b ∈ fs → BatOK b) → fs.length * 61 ≤ tot fs
  | [], _ => by simp
  | b :: fs, h => by
    have h1 := (h b List.mem_cons_self).1
    have h2 := tot_61 (fs := fs) (fun b hb => h b (List.mem_cons_of_mem _ hb))
    simp only [tot, List.map_cons, List.sum_cons, List.length_cons] at h2 ⊢
    omega
theorem Fr_e {q : Nat → Nat → Nat} {A : Nat → Nat → Prop} {M M' : Mm} {a b : Nat} {f : Nat → Int32} (e : M' = sI M (q a b) f) (h : A a b) : Fr q A M M' := by rw [e]; exact Fr_sI _ _ _ _ h
theorem Fr_eJ {q : Nat → Nat → Nat} {A : Nat → Nat → Prop} {M M' : Mm} {a b : Nat} {f : Nat → Int64} (e : M' = sJ M (q a b) f) (h : A a b) : Fr q A M M' := by rw [e]; exact Fr_sJ _ _ _ _ h
def F678 : Nat → Nat → Prop := fun a b => a = 0 ∧ (b = 6 ∨ b = 7 ∨ b = 8)
theorem pbs_hi {fs : List Bt} {p : Nat × Bt} (h : p ∈ pbs 0 fs) : p.1 + p.2.length ≤ tot fs ∧ p.2 ∈ fs := by
  have := pbs_in h
  rw [Nat.zero_add] at this
  exact ⟨this.2.1, this.2.2⟩
theorem c_fadd {Y : Ly} {q : Nat → Nat → Nat} {nL W nB : Nat} {M : Mm} {Kn : Mm → Prop} {b : Bt} {p : Nat} {fs : List Bt} (hC : SC Y q nL W nB) (hR : SR q nL (mR M)) (hL : Lie (mI M (q 0 11)) p b) (hp : p + b.length ≤ nB * 1024) (hb : BatOK b) (hF : FetC q M fs) (hFO : FetOK fs) (ht : tot fs + b.length ≤ 32768) (h : ∀ M', Fr q F678 M M' → FetC q M' (fs ++ [b]) → Kn M') : f_X6_add Y (q 0 6) (q 0 11) (nI p) M Kn := by
  have hd := sdims hC
  have h61 := hb.1
  have n11 := sn_0_11 hC
  have hl := tot_61 hFO.2
  have hp2 : p < 2 ^ 31 := by omega
  unfold f_X6_add
  refine s_sizeOf (sk_0_11 hC) (by omega) (by omega) ⟨sk_0_6 hC, _, sr_0_6_0 hR, sk_0_11 hC, sk_0_7 hC, ?_⟩
  rw [sz_B hL hb, hF.1, nI_clamp hp2, nI_clamp (show tot fs < 2 ^ 31 by omega), nI_clamp (show b.length < 2 ^ 31 by omega)]
  refine ⟨⟨nI_pos hp2, nI_pos (by omega), nI_pos (by omega), by omega, by rw [sn_0_7 hC]; exact ht⟩, fun M8 e8 => ?_⟩
  rw [cpy_cp] at e8
  have a8 : mI M8 (q 0 6) = mI M (q 0 6) := by rw [e8]; exact I_ne hC _ _ (by omega)
  have b8 : mI M8 (q 0 8) = mI M (q 0 8) := by rw [e8]; exact I_ne hC _ _ (by omega)
  have c8 : mI M8 (q 0 7) = cp (mI M (q 0 7)) (mI M (q 0 11)) p (tot fs) b.length := by rw [e8, mI_sI_self]
  have F8 : Fr q F678 M M8 := by rw [e8]; exact Fr_sI _ _ _ _ ⟨rfl, by simp⟩
  refine ⟨_, by rw [F8.2]; exact sr_0_6_3 hR, sk_0_8 hC, ?_, fun M12 e12 M13 e13 M14 e14 => ?_⟩
  · rw [a8, hF.2.1, sn_0_8 hC]; exact vp_in_nI (by omega) (by decide)
  rw [a8, hF.2.1, hF.1, b8, nI_clamp (by omega)] at e12
  have a12 : mI M12 (q 0 6) = mI M (q 0 6) := by rw [e12, I_ne hC _ _ (by omega)]; exact a8
  rw [a12, hF.2.1, nI_1] at e13
  have a13 : mI M13 (q 0 6) = m1 (mI M (q 0 6)) 2 (nI (fs.length + 1)) := by rw [e13, mI_sI_self]
  have t13 : mI M13 (q 0 6) 1 = nI (tot fs) := by rw [a13]; simp [m1, hF.1]
  rw [t13, nI_add, a13] at e14
  have F14 : Fr q F678 M M14 := Fr_trans F8 (Fr_trans (Fr_e e12 ⟨rfl, by simp⟩) (Fr_trans (Fr_e e13 ⟨rfl, by simp⟩) (Fr_e e14 ⟨rfl, by simp⟩)))
  have z6 : mI M14 (q 0 6) = m1 (m1 (mI M (q 0 6)) 2 (nI (fs.length + 1))) 1 (nI (tot fs + b.length)) := by rw [e14, mI_sI_self]
  have z8 : mI M14 (q 0 8) = m1 (mI M (q 0 8)) fs.length (nI (tot fs)) := by rw [e14, I_ne hC _ _ (by omega), e13, I_ne hC _ _ (by omega), e12, mI_sI_self]
  have z7 : mI M14 (q 0 7) = cp (mI M (q 0 7)) (mI M (q 0 11)) p (tot fs) b.length := by rw [e14, I_ne hC _ _ (by omega), e13, I_ne hC _ _ (by omega), e12, I_ne hC _ _ (by omega)]; exact c8
  refine h M14 F14 ⟨?_, ?_, ?_, ?_⟩
  · rw [z6, tot_s]; simp [m1]
  · rw [z6]; simp [m1]
  · rw [z8, pbs_s, List.map_append]
    have hk : fs.length = ((pbs 0 fs).map (fun p => p.1)).length := by rw [List.length_map, pbs_len]
    rw [hk]
    exact Ar_snoc hF.2.2.1 _
  · intro x hx
    rw [pbs_s, List.mem_append, List.mem_singleton] at hx
    rw [z7]
    rcases hx with hx | rfl
    · exact cp_keep (hF.2.2.2 x hx) (Or.inl (pbs_hi hx).1)
    · exact cp_Lie hL (Nat.le_refl _)
def tkF (most : Nat) : List Bt → List Bt → List Bt
  | acc, [] => acc
  | acc, b :: bs => if acc = [] ∨ tot acc + b.length ≤ most then tkF most (acc ++ [b]) bs else acc
theorem FetOK_s {fs : List Bt} {b : Bt} {most : Nat} (h : FetOK fs) (hb : BatOK b) (hm : most ≤ 32768) (hc : fs = [] ∨ tot fs + b.length ≤ most) : FetOK (fs ++ [b]) ∧ tot fs + b.length ≤ 32768 := by
  have h2 := hb.2.1
  have ht : tot fs + b.length ≤ 32768 := by
    rcases hc with rfl | hc
    · show 0 + _ ≤ _; omega
    · omega
  refine ⟨⟨by rw [tot_s]; exact ht, fun x hx => ?_⟩, ht⟩
  rw [List.mem_append, List.mem_singleton] at hx
  rcases hx with hx | rfl
  · exact h.2 x hx
  · exact hb
theorem F678_LogC {Y : Ly} {q : Nat → Nat → Nat} {nL W nB : Nat} {S : Nat → List Sg} {st en : Nat → Int64} {M M' : Mm} (hC : SC Y q nL W nB) (h : LogC q nL W nB M st en S) (F : Fr q F678 M M') : LogC q nL W nB M' st en S := LogC_fr hC h F (by simp [F678]) (fun l c => by simp [F678])
theorem c_fetchLoop {Y : Ly} {q : Nat → Nat → Nat} {nL W nB : Nat} {S : Nat → List Sg} {st en : Nat → Int64} {M : Mm} (hC : SC Y q nL W nB) (hR : SR q nL (mR M)) (hG : Geo nL W nB S) (hLC : LogC q nL W nB M st en S) (hD : DkA nL (mI M (q 0 11)) st en S) (hOK : LogOK nL S) {l i most : Nat} {fs : List Bt} {Kn : Int32 → Mm → Prop} (hl : l ≤ nL) (hm : most ≤ 32768) (hi : i ≤ (BS (S l)).length) (hF : FetC q M fs) (hFO : FetOK fs)
    (h : ∀ M', Fr q F678 M M' → FetC q M' (tkF most fs ((BS (S l)).drop i)) → FetOK (tkF most fs ((BS (S l)).drop i)) → Kn (nI (tot (tkF most fs ((BS (S l)).drop i)))) M') : ∃ n, LOOP2 (L_X11_fetch_75 Y (q 0 0) (nI most) Kn (q (l + 1) 0)) n (nI i) M := by
  have hd := sdims hC
  have hct := Geo_count hG hl
  have hPB := PS_len (S l)
  have n11 := sn_0_11 hC
  refine LOOP2_inv (fun x25 M26 => ∃ j gs, j ≤ (BS (S l)).length ∧ x25 = nI j ∧ FetC q M26 gs ∧ FetOK gs ∧ tkF most fs ((BS (S l)).drop i) = tkF most gs ((BS (S l)).drop j) ∧ Fr q F678 M M26) (fun x25 _ => (BS (S l)).length - x25.toNatClampNeg) ?_ _ _ ⟨i, fs, hi, rfl, hF, hFO, rfl, Fr_refl _ _ _⟩
  rintro x25 M26 again ⟨j, gs, hj, rfl, hF2, hFO2, he, F⟩ hag
  rw [he] at h
  have hLC2 := F678_LogC hC hLC F
  have hR2 : SR q nL (mR M26) := by rw [F.2]; exact hR
  have hD2 : DkA nL (mI M26 (q 0 11)) st en S := by rw [Fr_I hC F (by simp [F678])]; exact hD
  have hl61 := tot_61 hFO2.2
  have ht3 := hFO2.1
  unfold L_X11_fetch_75 f_X11_fetch_143
  rw [(hLC2.2.2 l hl).2.1.2.1, nI_cmp (by omega) (by omega)]
  have fin : tkF most gs ((BS (S l)).drop j) = gs → ∃ b28 : Nat, mR M26 (q 0 0) 5 = some b28 ∧ (yK Y b28 = 6 ∧ (Kn (mI M26 b28 1) M26)) := by
    intro e
    rw [e] at h
    refine ⟨_, sr_0_0_5 hR2, sk_0_6 hC, ?_⟩
    rw [hF2.1]
    exact h M26 F hF2 hFO2
  refine ⟨fun c => fin (by rw [List.drop_eq_nil_of_le (by omega)]; rfl), fun c => ?_⟩
  obtain ⟨p, hp⟩ := lt_some (show j < (PS (S l)).length by omega)
  obtain ⟨v1, v2, v3, v4⟩ := c_at (Y := Y) hG hLC2 hD2 hl hp
  obtain ⟨w1, w2⟩ := BS_at (W := W) (nB := nB) hOK hl hp
  rw [drop_s w1] at fin he h
  have hin : vp_in (nI j) (yN Y (q (l + 1) 4)) := by rw [sn_t_4 hC l hl]; exact vp_in_nI (by omega) (by omega)
  refine ⟨_, sr_0_0_5 hR2, _, sr_0_0_6 hR2, sk_0_10 hC, _, sr_0_10_0 hR2, _, sr_t_8 hR2 l hl, sk_t_4 hC l hl, hin, ?_⟩
  rw [nI_clamp (by omega), v1]
  refine s_sizeOf (sk_0_11 hC) (by omega) (by omega) ⟨sk_0_6 hC, ?_⟩
  rw [sz_B v2 w2]
  have go : gs = [] ∨ tot gs + p.2.length ≤ most → ∃ b44 : Nat, mR M26 (q 0 0) 5 = some b44 ∧ ∃ b45 : Nat, mR M26 (q 0 0) 6 = some b45 ∧ yK Y b45 = 3 ∧ ∃ b47 : Nat, mR M26 b45 0 = some b47 ∧ ∃ b48 : Nat, mR M26 (q (l + 1) 0) 8 = some b48 ∧ yK Y b48 = 101 ∧ vp_in (nI j) (yN Y b48) ∧ yK Y b44 = 6 ∧ f_X6_add Y b44 b47 (mI M26 b48 j) M26 (fun M51 => ∀ x53 : Int32, x53 = nI j + 1 → again x53 M51) := by
    intro hc
    obtain ⟨hFO3, ht⟩ := FetOK_s hFO2 w2 hm hc
    refine ⟨_, sr_0_0_5 hR2, _, sr_0_0_6 hR2, sk_0_10 hC, _, sr_0_10_0 hR2, _, sr_t_8 hR2 l hl, sk_t_4 hC l hl, hin, sk_0_6 hC, ?_⟩
    rw [v1]
    refine c_fadd hC hR2 v2 v3 w2 hF2 hFO2 ht (fun M' F' hF' x53 e53 => ?_)
    rw [nI_1] at e53
    subst e53
    refine hag _ _ ⟨j + 1, _, by omega, rfl, hF', hFO3, ?_, Fr_trans F F'⟩ ?_
    · rw [he]; simp only [tkF]; rw [if_pos hc]
    · rw [nI_clamp (by omega), nI_clamp (by omega)]; omega
  unfold f_X6_accepts f_X6_accepts_17 f_X6_accepts_22
  refine ⟨sk_0_6 hC, ?_⟩
  have hb2 := w2.2.1
  rw [hF2.2.1, hF2.1, show (0 : Int32) = nI 0 from rfl, nI_eq (by omega) (by omega), nI_add, nI_ltI (by omega) (by omega)]
  refine ⟨fun c2 => ⟨bz_1, fun z => absurd z (by decide), fun _ => go (Or.inl (List.length_eq_zero_iff.mp c2))⟩, fun c2 => ⟨fun c3 => ⟨bz_0, fun _ => fin ?_, fun z => absurd rfl z⟩, fun c3 => ⟨bz_1, fun z => absurd z (by decide), fun _ => go (Or.inr (by omega))⟩⟩⟩
  simp only [tkF]
  rw [if_neg]
  rintro (e | e)
  · rw [e] at c2; exact c2 rfl
  · omega
