/-! produce -/
def xL (A : AS) (L : LSt) : AS := (A.1, A.2.1, A.2.2.1, A.2.2.2.1, A.2.2.2.2.1, L, A.2.2.2.2.2.2)
def knO (tp : Bt) (S : List Sg) : Nat → Option Bt := if prB tp = -1 then fun _ => none else Kb S (prB tp)
def apV (L : LSt) (l : Nat) (r : Int32) : Int64 := if r = 1 then lE L l else if r = -2 then -2 else -3
def rProd (nL W nB : Nat) (v : Int32) (A : AS) : Op := oB (LgO nL v) (oB (lD (aL A) = 0) (oE (fun k : Int32 × Int32 => Exm (aT A) k.1 k.2) (fun k => oB (k.1 = 0) (oB ((aT A).length ≤ W * 1024) (oE (fun j => Jd (aT A) (knO (aT A) (lS (aL A) v.toNatClampNeg)) j) (fun j => oB (j = -1) (oE (fun x : LSt × Int32 => ApR nL W nB v.toNatClampNeg (aT A) (aL A) x.1 x.2) (fun x => oR 0 (apV (aL A) v.toNatClampNeg x.2) (xL (xT A []) x.1))) (oR 0 j (xT A [])))) (oR 0 (-5) (xT A []))) (oR 0 (-4) (xT A [])))) (oR 2 0 A)) (oR 1 0 A)
theorem Exm_61 {tp : Bt} {pl : Int32} (h : Exm tp 0 pl) : 61 ≤ tp.length := by
  rcases h with ⟨_, h, _⟩ | ⟨h61, _⟩
  · exact absurd h (by decide)
  · exact h61
theorem rProd_D (nL W nB : Nat) (v : Int32) (A : AS) : Det (rProd nL W nB v A) := by
  refine Det_B (fun _ => Det_B (fun _ => Det_E Ex_fun (fun k hk => Det_B (fun z => Det_B (fun _ => Det_E (fun x y h h' => Jd_fun h h') (fun j _ => Det_B (fun _ => Det_E (fun x y h h' => ?_) (fun _ _ => Det_R _ _ _)) (fun _ => Det_R _ _ _))) (fun _ => Det_R _ _ _)) (fun _ => Det_R _ _ _))) (fun _ => Det_R _ _ _)) (fun _ => Det_R _ _ _)
  obtain ⟨k1, k2⟩ := k
  have z : k1 = 0 := z
  subst z
  have := ApR_fun (Exm_61 hk) h h'
  exact Prod.ext this.1 this.2
theorem TpI_nil : TpI [] := ⟨Nat.zero_le _, fun p hp => absurd hp (List.not_mem_nil)⟩
theorem rProd_P {Y : Ly} {q : Nat → Nat → Nat} {nL W nB : Nat} {n : Nat} {v : Int32} {A : AS} (hC : SC Y q nL W nB) (h : AI nL W nB n A) (hn : n < 2 ^ 39) : Pre nL W nB n (rProd nL W nB v A) := by
  have hd := sdims hC
  have up := AI_up h (Nat.le_add_right n KK)
  have e0 : AI nL W nB (n + KK) (xT A []) := ⟨TpI_nil, up.2⟩
  refine Pre_B (fun g => Pre_B (fun _ => Pre_E (fun k hk => Pre_B (fun z => Pre_B (fun w => Pre_E (fun j _ => Pre_B (fun _ => Pre_E (fun x hx => Pre_R ?_)) (fun _ => Pre_R e0))) (fun _ => Pre_R e0)) (fun _ => Pre_R e0))) (fun _ => Pre_R up)) (fun _ => Pre_R up)
  obtain ⟨k1, k2⟩ := k
  have z : k1 = 0 := z
  subst z
  obtain ⟨c, hb⟩ := Exm_ok h.1 hk
  obtain ⟨l, hl, rfl⟩ := LgO_n (by omega) g
  rw [nI_clamp (by omega)] at hx
  have := ApR_IL h.2.2.2.2 (by omega) hb w hn (fun z => by omega) hx
  exact ⟨TpI_nil, up.2.1, up.2.2.1, up.2.2.2.1, IL_up this (by unfold KK; omega)⟩
def PAp (l c : Nat) : Nat → Nat → Nat → Prop := fun a b _ => Ap l c a b
/-- the pieces of the class but for tape and logs -/
theorem CS_app {Y : Ly} {q : Nat → Nat → Nat} {nL W nB : Nat} {M M' : Mm} {A : AS} {l c : Nat} {L : LSt} {t : List Int32} (hC : SC Y q nL W nB) (h : CS q nL W nB M A) (hl : l ≤ nL) (hc : c = 1 ∨ c = 33) (F : Fr q (Ap l c) M M') (hT : TpC q M' t) (hL : CL q nL W nB M' (aS A) L) (hb : ∀ j, j < 1024 → mI M' (q 0 11) j = mI M (q 0 11) j) (hD : lD L = 0 → lD (aL A) = 0) : CS q nL W nB M' (xL (xT A t) L) := by
  have hd := sdims hC
  have E : Ec q (PAp l c) M M' := Ec_Fr hC F
  obtain ⟨h0, h1, h2, h3, h4, h5, h6⟩ := h
  exact ⟨by rw [(E.1 0 0 0 (by unfold PAp Ap; omega)).1]; exact h0, hT, DrC_ec h2 E (fun j => by unfold PAp Ap; omega) (fun j => by unfold PAp Ap; omega), FetC_ec h3 E (fun j => by unfold PAp Ap; omega) (fun j => by unfold PAp Ap; omega) (fun j => by unfold PAp Ap; omega), GC_ec h4 E (fun b j _ _ => by unfold PAp Ap; omega), hL, NuC_L (NuC_ec h6 E hb (by unfold PAp Ap; omega) (by unfold PAp Ap; omega)) hD⟩
theorem l_produce {Y : Ly} {q : Nat → Nat → Nat} {nL W nB : Nat} {M : Mm} {A : AS} {n : Nat} {v : Int32} {Kn : Int32 → Mm → Prop} (hC : SC Y q nL W nB) (hR : SR q nL (mR M)) (hA : Rsl Y q) (hS : CS q nL W nB M A) (hI : AI nL W nB n A) (hK : KC q nL W nB (rProd nL W nB v A) M Kn) : f_L_produce Y (q 0 0) v (q 21 0) M Kn := by
  have hd := sdims hC
  refine ⟨sk_0_0 hC, ?_⟩
  unfold f_X11_produce
  refine ⟨sk_0_0 hC, c_isFor hC hS.1 (fun g => ⟨fun _ => ?_, fun z => absurd z (by decide)⟩) (fun g => ⟨fun z => absurd rfl z, fun _ => Or.inl ⟨rfl, K_no (by decide) hK (Or.inr ⟨g, rfl⟩) hS (Ec_refl _ _ _)⟩⟩)⟩
  refine c_power hC hR hS.2.2.2.2.2.1 (fun g2 => ?_) (fun g2 => Or.inr ⟨rfl, K_no (by decide) hK (Or.inl ⟨g, Or.inr ⟨g2, rfl⟩⟩) hS (Ec_refl _ _ _)⟩)
  intro x6 e6 M7 e7
  rw [hS.2.1.1] at e6
  subst e6
  have E7 : Ec q PcT M M7 := Ec_sI hC e7 ⟨rfl, Or.inl ⟨rfl, rfl⟩⟩
  have S7 : CS q nL W nB M7 (xT A []) := CS_xT hC hS E7 ⟨by rw [e7, mI_sI_self]; exact m1_at _ _ _, trivial⟩
  have hR7 : SR q nL (mR M7) := by rw [E7.2]; exact hR
  have L7 : Lie (mI M7 (q 0 1)) 0 (aT A) := by rw [e7, I_ne hC _ _ (by decide)]; exact hS.2.1.2
  refine ⟨_, sr_0_0_4 hR7, _, sr_0_0_1 hR7, sk_0_4 hC, c_examine hC hR7 L7 hI.1.1 (fun kd pl M10 hE F10 k0 k1 => ?_)⟩
  have E10 : Ec q Qs M7 M10 := Ec_mono (Ec_Fr hC F10) (fun a b j z => by unfold F45 at z; unfold Qs; omega)
  have S10 := CS_scr hC S7 E10
  have E9 : Ec q Pc9 M M10 := Ec_trans (Ec_mono E7 (fun a b j z => by unfold PcT at z; unfold Pc9; omega)) (Ec_mono E10 (fun a b j z => by unfold Qs at z; unfold Pc9; omega))
  have hR10 : SR q nL (mR M10) := by rw [E9.2]; exact hR
  have L10 : Lie (mI M10 (q 0 1)) 0 (aT A) := by rw [Ec_I E10 (fun j => by unfold Qs; omega)]; exact L7
  refine ⟨_, sr_0_0_4 hR10, sk_0_4 hC, ?_⟩
  rw [k0]
  refine ⟨fun z => ?_, fun z => K_st hC hA hK (Or.inl ⟨g, Or.inl ⟨g2, (kd, pl), hE, Or.inr ⟨z, rfl⟩⟩⟩) S10 E9⟩
  subst z
  have h61 := Exm_61 hE
  obtain ⟨l, hl, rfl⟩ := LgO_n (by omega) g
  have cl : (nI l).toNatClampNeg = l := nI_clamp (by omega)
  refine ⟨_, sr_0_0_10 hR10, _, sr_0_0_10 hR10, sk_0_13 hC, _, sr_0_13_1 hR10, sk_0_14 hC, by rw [sn_0_14 hC]; exact vp_in_nI (by omega) (by omega), _, by rw [cl]; exact sr_0_14 hR10 l (by omega), _, sr_0_0_1 hR10, sk_0_13 hC, ?_⟩
  have CL10 : CL q nL W nB M10 (aS A) (aL A) := S10.2.2.2.2.2.1
  have LC10 := CL10.2.2.2.2.2 g2
  have hG := hI.2.2.2.2.1
  have hlf : LfOK (lL (aL A)) := by
    rcases hI.2.2.2.2.2.2.2.2 with ⟨_, h⟩ | h
    · exact h
    · rw [g2] at h; exact absurd h (by decide)
  unfold f_X9_accept f_X9_accept_45
  refine ⟨sk_0_13 hC, ?_⟩
  rw [CL10.1.1, show nI W * 1024 = nI (W * 1024) from pk_mul W 1024]
  refine pk_le (aT A).length (W * 1024) (fun w => ?_) (fun w => K_st hC hA hK (Or.inl ⟨g, Or.inl ⟨g2, (0, pl), hE, Or.inl ⟨rfl, Or.inr ⟨by omega, rfl⟩⟩⟩⟩) S10 E9) rfl rfl (by have := hI.1.1; omega)
  refine c_answer hC hR10 (by omega) hG LC10 CL10.2.1 L10 h61 (fun j hj => ?_)
  have hj' : Jd (aT A) (knO (aT A) (lS (aL A) (nI l).toNatClampNeg)) j := by rw [cl]; exact hj
  refine ⟨fun z => K_st hC hA hK (Or.inl ⟨g, Or.inl ⟨g2, (0, pl), hE, Or.inl ⟨rfl, Or.inl ⟨w, j, hj', Or.inr ⟨z, rfl⟩⟩⟩⟩⟩) S10 E9, fun z => ?_⟩
  refine c_app hC hR10 (by omega) (Or.inl rfl) hG CL10 g2 hlf L10 h61 w (by rw [sn_0_1 hC]; exact hI.1.1) (fun L' r M' hA' C' F' hb => ?_)
  have hX : rProd nL W nB (nI l) A (0, apV (aL A) l r, xL (xT A []) L') := Or.inl ⟨g, Or.inl ⟨g2, (0, pl), hE, Or.inl ⟨rfl, Or.inl ⟨w, j, hj', Or.inl ⟨z, (L', r), by rw [cl]; exact hA', by rw [cl]; rfl⟩⟩⟩⟩⟩
  have E' := Ec_Fr hC F'
  have hap : ∀ a b, Ap l 1 a b → a ≤ 9 := fun a b z => by unfold Ap at z; omega
  refine K_st hC hA hK hX ?_ (Ec_trans E9 (Ec_mono E' (fun a b j z => hap a b z)))
  refine CS_app (A := xT A []) hC S10 (by omega) (Or.inl rfl) F' ⟨?_, trivial⟩ C' hb (fun _ => g2)
  rw [(E'.1 0 0 2 (fun z => by have z : Ap l 1 0 0 := z; unfold Ap at z; omega)).1]
  exact S10.2.1.1
