/-! calls: what they answer and where they come to -/
abbrev Out : Type := Int32 × Int64 × AS
abbrev Op : Type := Out → Prop
def oR (c : Int32) (v : Int64) (A : AS) : Op := fun o => o = (c, v, A)
def oB (p : Prop) (X Z : Op) : Op := fun o => (p ∧ X o) ∨ (¬ p ∧ Z o)
def oE {α : Type} (S : α → Prop) (X : α → Op) : Op := fun o => ∃ x, S x ∧ X x o
def Det (X : Op) : Prop := ∀ o o', X o → X o' → o = o'
theorem Det_R (c : Int32) (v : Int64) (A : AS) : Det (oR c v A) := fun _ _ h h' => h.trans h'.symm
theorem Det_B {p : Prop} {X Z : Op} (h : p → Det X) (k : ¬ p → Det Z) : Det (oB p X Z) := by
  rintro o o' (⟨a, x⟩ | ⟨a, x⟩) (⟨b, y⟩ | ⟨b, y⟩)
  · exact h a o o' x y
  · exact absurd a b
  · exact absurd b a
  · exact k a o o' x y
theorem Det_E {α : Type} {S : α → Prop} {X : α → Op} (hS : ∀ x y, S x → S y → x = y) (h : ∀ x, S x → Det (X x)) : Det (oE S X) := by
  rintro o o' ⟨x, sx, hx⟩ ⟨y, sy, hy⟩
  have e := hS x y sx sy
  subst e
  exact h x sx o o' hx hy
/-- the bound that grows with each call -/
def KK : Nat := 1600000
theorem IL_up {nL W nB n m : Nat} {st : Nat → Int64} {L : LSt} (h : IL nL W nB n st L) (hm : n ≤ m) : IL nL W nB m st L := by
  obtain ⟨a, b, c, d, e⟩ := h
  refine ⟨a, b, fun l hl => ?_, fun b hb => ?_, e⟩
  · obtain ⟨s, e, a1, a2, a3, a4⟩ := c l hl
    exact ⟨s, e, a1, a2, by omega, a4⟩
  · obtain ⟨g, o, v, b1, b2, b3, b4⟩ := d b hb
    refine ⟨g, o, v, b1, b2, b3, fun z => ?_⟩
    obtain ⟨k, hk, e⟩ := b4 z
    exact ⟨k, by omega, e⟩
theorem AI_up {nL W nB n m : Nat} {A : AS} (h : AI nL W nB n A) (hm : n ≤ m) : AI nL W nB m A := ⟨h.1, h.2.1, h.2.2.1, GI_up h.2.2.2.1 hm, IL_up h.2.2.2.2 hm⟩
def Pre (nL W nB n : Nat) (X : Op) : Prop := ∀ o, X o → AI nL W nB (n + KK) o.2.2
theorem Pre_R {nL W nB n : Nat} {c : Int32} {v : Int64} {A : AS} (h : AI nL W nB (n + KK) A) : Pre nL W nB n (oR c v A) := fun o e => by rw [show o = (c, v, A) from e]; exact h
theorem Pre_B {nL W nB n : Nat} {p : Prop} {X Z : Op} (h : p → Pre nL W nB n X) (k : ¬ p → Pre nL W nB n Z) : Pre nL W nB n (oB p X Z) := by
  rintro o (⟨a, x⟩ | ⟨a, x⟩)
  · exact h a o x
  · exact k a o x
theorem Pre_E {nL W nB n : Nat} {α : Type} {S : α → Prop} {X : α → Op} (h : ∀ x, S x → Pre nL W nB n (X x)) : Pre nL W nB n (oE S X) := fun o ⟨x, sx, hx⟩ => h x sx o hx
/-- the law's own place -/
def Rsl (Y : Ly) (q : Nat → Nat → Nat) : Prop := yK Y (q 21 0) = 102 ∧ vp_in 0 (yN Y (q 21 0))
def Pl9 : Nat → Nat → Nat → Prop := fun a _ _ => a ≤ 9 ∨ a = 21
/-- what follows the class's call, what follows the model's -/
def KC (q : Nat → Nat → Nat) (nL W nB : Nat) (X : Op) (M : Mm) (Kn : Int32 → Mm → Prop) : Prop := ∀ o M', X o → CS q nL W nB M' o.2.2 → Ec q Pl9 M M' → (o.1 = 0 → mJ M' (q 21 0) 0 = o.2.1) → Kn o.1 M'
def KM (q : Nat → Nat → Nat) (nL W nB : Nat) (X : Op) (M : Mm) (Kn : Int64 → Mm → Prop) : Prop := ∀ o M' r, X o → MS q nL W nB M' o.2.2 → Ef q Pm20 M M' → mI M' (q 20 0) 0 = o.1 → (o.1 = 0 → r = o.2.1) → Kn r M'
theorem CS_sl {Y : Ly} {q : Nat → Nat → Nat} {nL W nB : Nat} {M : Mm} {A : AS} {f : Nat → Int64} (hC : SC Y q nL W nB) (h : CS q nL W nB M A) : CS q nL W nB (sJ M (q 21 0) f) A := by
  refine CS_out (P := fun a _ _ => a = 21) hC h ⟨fun a b j n => ⟨rfl, ?_⟩, fun _ _ => rfl, fun _ _ _ _ => rfl⟩ (fun a b j ha z => by omega)
  rw [J_ne hC _ _ (fun z => n z.1)]
/-- the class's value is stored -/
theorem K_st {Y : Ly} {q : Nat → Nat → Nat} {nL W nB : Nat} {X : Op} {M M1 : Mm} {A : AS} {v : Int64} {Kn : Int32 → Mm → Prop} (hC : SC Y q nL W nB) (hA : Rsl Y q) (hK : KC q nL W nB X M Kn) (hX : X (0, v, A)) (hS : CS q nL W nB M1 A) (E : Ec q Pc9 M M1) : yK Y (q 21 0) = 102 ∧ (vp_in 0 (yN Y (q 21 0)) ∧ (∀ M2 : Mm, M2 = sJ M1 (q 21 0) (m1 (mJ M1 (q 21 0)) (0 : Int32).toNatClampNeg v) → Kn 0 M2)) := by
  refine ⟨hA.1, hA.2, fun M2 e2 => ?_⟩
  refine hK (0, v, A) M2 hX (by rw [e2]; exact CS_sl hC hS) ⟨fun a b j n => ?_, by rw [e2]; exact E.2⟩ (fun _ => by rw [e2, mJ_sJ_self]; exact m1_at _ _ _)
  unfold Pl9 at n
  have h1 := E.1 a b j (fun z => n (Or.inl z))
  refine ⟨by rw [e2]; exact h1.1, ?_⟩
  rw [e2, J_ne hC _ _ (by omega)]; exact h1.2
theorem K_no {q : Nat → Nat → Nat} {nL W nB : Nat} {X : Op} {M M1 : Mm} {A : AS} {c : Int32} {v : Int64} {Kn : Int32 → Mm → Prop} (hc : ¬ c = 0) (hK : KC q nL W nB X M Kn) (hX : X (c, v, A)) (hS : CS q nL W nB M1 A) (E : Ec q Pc9 M M1) : Kn c M1 :=
  hK (c, v, A) M1 hX hS (Ec_mono E (fun a b j z => Or.inl z)) (fun z => absurd z hc)
theorem M_no {Y : Ly} {q : Nat → Nat → Nat} {nL W nB : Nat} {X : Op} {M : Mm} {A : AS} {c : Int32} {v r : Int64} {Kn : Int64 → Mm → Prop} (hC : SC Y q nL W nB) (hc : ¬ c = 0) (hK : KM q nL W nB X M Kn) (hX : X (c, v, A)) (hS : MS q nL W nB M A) : Kn r (cd q M c) :=
  hK (c, v, A) _ _ hX (cd_MS hC hS c) (Ec_H (cd_Ec hC c rfl)).1 (cd_0 _ _ _) (fun z => absurd z hc)
/-! the tape -/
def xT (A : AS) (t : List Int32) : AS := (t, A.2)
def xD (A : AS) (D : Dr) : AS := (A.1, D, A.2.2)
theorem CS_xT {Y : Ly} {q : Nat → Nat → Nat} {nL W nB : Nat} {M M' : Mm} {A : AS} {t : List Int32} (hC : SC Y q nL W nB) (h : CS q nL W nB M A) (E : Ec q PcT M M') (hT : TpC q M' t) : CS q nL W nB M' (xT A t) := by
  have hd := sdims hC
  obtain ⟨h0, h1, h2, h3, h4, h5, h6⟩ := h
  exact ⟨by rw [(E.1 0 0 0 (by unfold PcT; omega)).1]; exact h0, hT, DrC_ec h2 E (fun j => by unfold PcT; omega) (fun j => by unfold PcT; omega), FetC_ec h3 E (fun j => by unfold PcT; omega) (fun j => by unfold PcT; omega) (fun j => by unfold PcT; omega), GC_ec h4 E (fun b j _ _ => by unfold PcT; omega), CL_ec h5 E (fun j => by unfold PcT; omega) (fun j => by unfold PcT; omega) (fun j => by unfold PcT; omega) (fun l b j hl => by unfold PcT; omega), NuC_ec h6 E (fun j _ => (E.1 0 11 j (by unfold PcT; omega)).1) (by unfold PcT; omega) (by unfold PcT; omega)⟩
theorem MS_xT {Y : Ly} {q : Nat → Nat → Nat} {nL W nB : Nat} {M M' : Mm} {A : AS} {t : List Int32} (hC : SC Y q nL W nB) (h : MS q nL W nB M A) (E : Ec q PmT M M') (hT : TpM q M' t) : MS q nL W nB M' (xT A t) := by
  obtain ⟨h1, h2, h3, h4, h5, h6, h7⟩ := h
  have F := (Ec_H E).1
  exact ⟨hT, DrM_ec h2 F (by unfold PmT; omega) (fun b j _ _ => by unfold PmT; omega), FetM_ec h3 F (by unfold PmT; omega) (fun j => by unfold PmT; omega), GM_ef hC h4 F (by unfold PmT; omega) (fun b j _ _ => by unfold PmT; omega), ML_ef h5 (Ec_H E) (fun a b j z => by unfold PLg at z; unfold PmT; omega) (by unfold PmT; omega) (by unfold PmT; omega) (by unfold PmT; omega), by rw [(E.1 20 0 8 (by unfold PmT; omega)).2]; exact h6, by rw [(E.1 20 0 9 (by unfold PmT; omega)).2]; exact h7⟩
theorem AI_xT {nL W nB n : Nat} {A : AS} {t : List Int32} (h : AI nL W nB n A) (hT : TpI t) : AI nL W nB (n + KK) (xT A t) := by
  have := AI_up h (Nat.le_add_right n KK)
  exact ⟨hT, this.2⟩
def rFeed (a b c d e : Int32) (A : AS) : Op := oB ((aT A).length + 20 ≤ 16384) (oR 0 (nI ((aT A).length + 20)).toInt64 (xT A (aT A ++ fdB a b c d e))) (oR 1 0 A)
theorem rFeed_D (a b c d e : Int32) (A : AS) : Det (rFeed a b c d e A) := Det_B (fun _ => Det_R _ _ _) (fun _ => Det_R _ _ _)
theorem fdB_By (a b c d e : Int32) : Bys (fdB a b c d e) := Bys_app (pb_By _ _) (Bys_app (pb_By _ _) (Bys_app (pb_By _ _) (Bys_app (pb_By _ _) (pb_By _ _))))
theorem rFeed_P {nL W nB n : Nat} {a b c d e : Int32} {A : AS} (h : AI nL W nB n A) : Pre nL W nB n (rFeed a b c d e A) :=
  Pre_B (fun g => Pre_R (AI_xT h ⟨by rw [List.length_append, fdB_len]; exact g, Bys_app h.1.2 (fdB_By _ _ _ _ _)⟩)) (fun _ => Pre_R (AI_up h (Nat.le_add_right _ _)))
theorem l_feed {Y : Ly} {q : Nat → Nat → Nat} {nL W nB : Nat} {M : Mm} {A : AS} {n : Nat} {a b c d e : Int32} {Kn : Int32 → Mm → Prop} (hC : SC Y q nL W nB) (hR : SR q nL (mR M)) (hA : Rsl Y q) (hS : CS q nL W nB M A) (hI : AI nL W nB n A) (hK : KC q nL W nB (rFeed a b c d e A) M Kn) : f_L_feed Y (q 0 0) a b c d e (q 21 0) M Kn := by
  refine ⟨sk_0_0 hC, c_feed hC hR hS.2.1 hI.1 (fun g => ⟨rfl, ?_⟩) (fun g M' E T => ?_)⟩
  · exact K_no (by decide) hK (Or.inr ⟨g, rfl⟩) hS (Ec_refl _ _ _)
  · exact K_st hC hA hK (Or.inl ⟨g, rfl⟩) (CS_xT hC hS E T) (Ec_mono E (fun a b j z => by unfold PcT at z; unfold Pc9; omega))
theorem n_feed {Y : Ly} {q : Nat → Nat → Nat} {nL W nB : Nat} {M : Mm} {A : AS} {n : Nat} {a b c d e : Int32} {Kn : Int64 → Mm → Prop} (hC : SC Y q nL W nB) (hM : SM q (mR M)) (hS : MS q nL W nB M A) (hI : AI nL W nB n A) (hK : KM q nL W nB (rFeed a b c d e A) M Kn) : f_X12_feed Y (q 20 0) a b c d e M (fun r M' => Kn r.toInt64 M') := by
  refine m_feed hC hM hS.1 hI.1 (fun g => ?_) (fun g M' E z T => ?_)
  · exact M_no hC (by decide) hK (Or.inr ⟨g, rfl⟩) hS
  · exact hK (0, _, _) _ _ (Or.inl ⟨g, rfl⟩) (MS_xT hC hS E T) (Ec_H (Ec_mono E (fun a b j z => z.1))).1 z (fun _ => rfl)
def rTrim (v : Int32) (A : AS) : Op := oB (0 ≤ v ∧ v ≤ nI (aT A).length) (oR 0 (nI ((aT A).length - v.toNatClampNeg)).toInt64 (xT A ((aT A).take ((aT A).length - v.toNatClampNeg)))) (oR 1 0 A)
theorem rTrim_D (v : Int32) (A : AS) : Det (rTrim v A) := Det_B (fun _ => Det_R _ _ _) (fun _ => Det_R _ _ _)
theorem rTrim_P {nL W nB n : Nat} {v : Int32} {A : AS} (h : AI nL W nB n A) : Pre nL W nB n (rTrim v A) :=
  Pre_B (fun g => Pre_R (AI_xT h ⟨by rw [List.length_take]; have := h.1.1; omega, Bys_take h.1.2 _⟩)) (fun _ => Pre_R (AI_up h (Nat.le_add_right _ _)))
theorem l_trim {Y : Ly} {q : Nat → Nat → Nat} {nL W nB : Nat} {M : Mm} {A : AS} {n : Nat} {v : Int32} {Kn : Int32 → Mm → Prop} (hC : SC Y q nL W nB) (hA : Rsl Y q) (hS : CS q nL W nB M A) (hI : AI nL W nB n A) (hK : KC q nL W nB (rTrim v A) M Kn) : f_L_trim Y (q 0 0) v (q 21 0) M Kn := by
  refine ⟨sk_0_0 hC, c_trim hC hS.2.1 hI.1 (fun g => ⟨rfl, ?_⟩) (fun g M' E T => ?_)⟩
  · exact K_no (by decide) hK (Or.inr ⟨g, rfl⟩) hS (Ec_refl _ _ _)
  · exact K_st hC hA hK (Or.inl ⟨g, rfl⟩) (CS_xT hC hS E T) (Ec_mono E (fun a b j z => by unfold PcT at z; unfold Pc9; omega))
theorem n_trim {Y : Ly} {q : Nat → Nat → Nat} {nL W nB : Nat} {M : Mm} {A : AS} {n : Nat} {v : Int32} {Kn : Int64 → Mm → Prop} (hC : SC Y q nL W nB) (hS : MS q nL W nB M A) (hI : AI nL W nB n A) (hK : KM q nL W nB (rTrim v A) M Kn) : f_X12_trim Y (q 20 0) v M (fun r M' => Kn r.toInt64 M') := by
  refine m_trim hC hS.1 hI.1 (fun g => ?_) (fun g M' E z T => ?_)
  · exact M_no hC (by decide) hK (Or.inr ⟨g, rfl⟩) hS
  · exact hK (0, _, _) _ _ (Or.inl ⟨g, rfl⟩) (MS_xT hC hS E T) (Ec_H (Ec_mono E (fun a b j z => z.1))).1 z (fun _ => rfl)
def rSpoil (i v : Int32) (A : AS) : Op := oB (SpO (aT A) i v) (oR 0 (spB ((aT A).getD i.toNatClampNeg 0) v &&& 255).toInt64 (xT A (spT (aT A) i.toNatClampNeg v))) (oR 1 0 A)
theorem rSpoil_D (i v : Int32) (A : AS) : Det (rSpoil i v A) := Det_B (fun _ => Det_R _ _ _) (fun _ => Det_R _ _ _)
theorem Bys_set {x : List Int32} {i : Nat} {v : Int32} (h : Bys x) (hv : By v) : Bys (x.set i v) := fun p hp => by
  rcases List.mem_or_eq_of_mem_set hp with z | rfl
  · exact h p z
  · exact hv
theorem rSpoil_P {nL W nB n : Nat} {i v : Int32} {A : AS} (h : AI nL W nB n A) : Pre nL W nB n (rSpoil i v A) :=
  Pre_B (fun g => Pre_R (AI_xT h ⟨by unfold spT; rw [List.length_set]; exact h.1.1, Bys_set h.1.2 (By_8 _)⟩)) (fun _ => Pre_R (AI_up h (Nat.le_add_right _ _)))
theorem l_spoil {Y : Ly} {q : Nat → Nat → Nat} {nL W nB : Nat} {M : Mm} {A : AS} {n : Nat} {i v : Int32} {Kn : Int32 → Mm → Prop} (hC : SC Y q nL W nB) (hR : SR q nL (mR M)) (hA : Rsl Y q) (hS : CS q nL W nB M A) (hI : AI nL W nB n A) (hK : KC q nL W nB (rSpoil i v A) M Kn) : f_L_spoil Y (q 0 0) i v (q 21 0) M Kn := by
  refine ⟨sk_0_0 hC, c_spoil hC hR hS.2.1 hI.1 (fun g => ⟨rfl, ?_⟩) (fun g M' E T => ?_)⟩
  · exact K_no (by decide) hK (Or.inr ⟨g, rfl⟩) hS (Ec_refl _ _ _)
  · exact K_st hC hA hK (Or.inl ⟨g, rfl⟩) (CS_xT hC hS E T) (Ec_mono E (fun a b j z => by unfold PcT at z; unfold Pc9; omega))
theorem n_spoil {Y : Ly} {q : Nat → Nat → Nat} {nL W nB : Nat} {M : Mm} {A : AS} {n : Nat} {i v : Int32} {Kn : Int64 → Mm → Prop} (hC : SC Y q nL W nB) (hM : SM q (mR M)) (hS : MS q nL W nB M A) (hI : AI nL W nB n A) (hK : KM q nL W nB (rSpoil i v A) M Kn) : f_X12_spoil Y (q 20 0) i v M (fun r M' => Kn r.toInt64 M') := by
  refine m_spoil hC hM hS.1 hI.1 (fun g => ?_) (fun g M' E z T => ?_)
  · exact M_no hC (by decide) hK (Or.inr ⟨g, rfl⟩) hS
  · exact hK (0, _, _) _ _ (Or.inl ⟨g, rfl⟩) (MS_xT hC hS E T) (Ec_H (Ec_mono E (fun a b j z => z.1))).1 z (fun _ => rfl)
