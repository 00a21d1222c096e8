/-! what may have changed, place by place -/
def Ef (q : Nat → Nat → Nat) (P : Nat → Nat → Nat → Prop) (M M' : Mm) : Prop := (∀ a b j, ¬ P a b j → mI M' (q a b) j = mI M (q a b) j ∧ mJ M' (q a b) j = mJ M (q a b) j) ∧ (∀ x, x ≠ q 20 0 → mR M' x = mR M x) ∧ (∀ f, f ≠ 23 → f ≠ 24 → f ≠ 40 → mR M' (q 20 0) f = mR M (q 20 0) f)
theorem Ef_refl (q : Nat → Nat → Nat) (P : Nat → Nat → Nat → Prop) (M : Mm) : Ef q P M M := ⟨fun _ _ _ _ => ⟨rfl, rfl⟩, fun _ _ => rfl, fun _ _ _ _ => rfl⟩
theorem Ef_trans {q : Nat → Nat → Nat} {P : Nat → Nat → Nat → Prop} {M M' M'' : Mm} (h : Ef q P M M') (k : Ef q P M' M'') : Ef q P M M'' :=
  ⟨fun a b j n => ⟨(k.1 a b j n).1.trans (h.1 a b j n).1, (k.1 a b j n).2.trans (h.1 a b j n).2⟩, fun x hx => (k.2.1 x hx).trans (h.2.1 x hx), fun f a b c => (k.2.2 f a b c).trans (h.2.2 f a b c)⟩
theorem Ef_mono {q : Nat → Nat → Nat} {P Q : Nat → Nat → Nat → Prop} {M M' : Mm} (h : Ef q P M M') (hs : ∀ a b j, P a b j → Q a b j) : Ef q Q M M' := ⟨fun a b j n => h.1 a b j (fun z => n (hs a b j z)), h.2⟩
theorem Ef_I {q : Nat → Nat → Nat} {P : Nat → Nat → Nat → Prop} {M M' : Mm} (h : Ef q P M M') {a b : Nat} (hn : ∀ j, ¬ P a b j) : mI M' (q a b) = mI M (q a b) := funext (fun j => (h.1 a b j (hn j)).1)
theorem Ef_J {q : Nat → Nat → Nat} {P : Nat → Nat → Nat → Prop} {M M' : Mm} (h : Ef q P M M') {a b : Nat} (hn : ∀ j, ¬ P a b j) : mJ M' (q a b) = mJ M (q a b) := funext (fun j => (h.1 a b j (hn j)).2)
theorem Ef_i {q : Nat → Nat → Nat} {P : Nat → Nat → Nat → Prop} {M M' : Mm} (h : Ef q P M M') {a b j : Nat} (hn : ¬ P a b j) : mI M' (q a b) j = mI M (q a b) j := (h.1 a b j hn).1
theorem Ef_j {q : Nat → Nat → Nat} {P : Nat → Nat → Nat → Prop} {M M' : Mm} (h : Ef q P M M') {a b j : Nat} (hn : ¬ P a b j) : mJ M' (q a b) j = mJ M (q a b) j := (h.1 a b j hn).2
theorem Ef_SM {q : Nat → Nat → Nat} {P : Nat → Nat → Nat → Prop} {M M' : Mm} (h : Ef q P M M') (hM : SM q (mR M)) : SM q (mR M') := SM_of hM (fun f a b c => h.2.2 f a b c)
theorem Ef_SR {Y : Ly} {q : Nat → Nat → Nat} {nL W nB : Nat} {P : Nat → Nat → Nat → Prop} {M M' : Mm} (hC : SC Y q nL W nB) (h : Ef q P M M') (hR : SR q nL (mR M)) : SR q nL (mR M') := by
  have e : ∀ a b, ¬ (a = 20 ∧ b = 0) → mR M' (q a b) = mR M (q a b) := fun a b n => h.2.1 _ (q_ne hC n)
  have hd := sdims hC
  revert hR
  unfold SR
  repeat' refine And.imp ?_ ?_
  all_goals first | (intro h; rw [e _ _ (by omega)]; exact h) | (intro h l hl; rw [e _ _ (by omega)]; exact h l hl)
theorem Ef_Fr {Y : Ly} {q : Nat → Nat → Nat} {nL W nB : Nat} {A : Nat → Nat → Prop} {M M' : Mm} (hC : SC Y q nL W nB) (h : Fr q A M M') : Ef q (fun a b _ => A a b) M M' :=
  ⟨fun a b j n => ⟨by rw [Fr_I hC h n], by rw [Fr_J hC h n]⟩, fun x _ => by rw [h.2], fun f _ _ _ => by rw [h.2]⟩
def P4 : Nat → Nat → Nat → Prop := fun a b j => a = 20 ∧ b = 0 ∧ 41 ≤ j ∧ j ≤ 52
theorem Ef_Scr {Y : Ly} {q : Nat → Nat → Nat} {nL W nB : Nat} {M M' : Mm} (hC : SC Y q nL W nB) (h : Scr q M M') : Ef q P4 M M' := by
  refine ⟨fun a b j n => ?_, h.1.2, fun f _ _ c => h.2.1 f c⟩
  by_cases e : a = 20 ∧ b = 0
  · obtain ⟨rfl, rfl⟩ := e
    unfold P4 at n
    exact ⟨h.2.2.1 j (by omega), h.2.2.2 j (by omega)⟩
  · exact ⟨by rw [Scr_I hC h e], by rw [Scr_J hC h e]⟩
theorem Ef_sI {Y : Ly} {q : Nat → Nat → Nat} {nL W nB : Nat} {P : Nat → Nat → Nat → Prop} {M M' : Mm} (hC : SC Y q nL W nB) {a b j : Nat} {v : Int32} (e : M' = sI M (q a b) (m1 (mI M (q a b)) j v)) (h : P a b j) : Ef q P M M' := by
  subst e
  refine ⟨fun c d i n => ⟨?_, rfl⟩, fun _ _ => rfl, fun _ _ _ _ => rfl⟩
  by_cases e : c = a ∧ d = b
  · obtain ⟨rfl, rfl⟩ := e
    rw [mI_sI_self]
    exact m1_ne _ _ (fun z => n (by rw [z]; exact h))
  · rw [I_ne hC _ _ e]
theorem Ef_sIr {Y : Ly} {q : Nat → Nat → Nat} {nL W nB : Nat} {P : Nat → Nat → Nat → Prop} {M M' : Mm} (hC : SC Y q nL W nB) {a b : Nat} {f : Nat → Int32} (e : M' = sI M (q a b) f) (h : ∀ j, P a b j) : Ef q P M M' := by
  subst e
  refine ⟨fun c d i n => ⟨?_, rfl⟩, fun _ _ => rfl, fun _ _ _ _ => rfl⟩
  rw [I_ne hC _ _ (fun z => n (by rw [z.1, z.2]; exact h i))]
theorem Ef_sJ {Y : Ly} {q : Nat → Nat → Nat} {nL W nB : Nat} {P : Nat → Nat → Nat → Prop} {M M' : Mm} (hC : SC Y q nL W nB) {a b j : Nat} {v : Int64} (e : M' = sJ M (q a b) (m1 (mJ M (q a b)) j v)) (h : P a b j) : Ef q P M M' := by
  subst e
  refine ⟨fun c d i n => ⟨rfl, ?_⟩, fun _ _ => rfl, fun _ _ _ _ => rfl⟩
  by_cases e : c = a ∧ d = b
  · obtain ⟨rfl, rfl⟩ := e
    rw [mJ_sJ_self]
    exact m1_ne _ _ (fun z => n (by rw [z]; exact h))
  · rw [J_ne hC _ _ e]
def EfH (q : Nat → Nat → Nat) (P : Nat → Nat → Nat → Prop) (M M' : Mm) : Prop := Ef q P M M' ∧ mR M' (q 20 0) 23 = mR M (q 20 0) 23 ∧ mR M' (q 20 0) 24 = mR M (q 20 0) 24
theorem EfH_refl (q : Nat → Nat → Nat) (P : Nat → Nat → Nat → Prop) (M : Mm) : EfH q P M M := ⟨Ef_refl _ _ _, rfl, rfl⟩
theorem EfH_trans {q : Nat → Nat → Nat} {P : Nat → Nat → Nat → Prop} {M M' M'' : Mm} (h : EfH q P M M') (k : EfH q P M' M'') : EfH q P M M'' := ⟨Ef_trans h.1 k.1, k.2.1.trans h.2.1, k.2.2.trans h.2.2⟩
theorem EfH_mono {q : Nat → Nat → Nat} {P Q : Nat → Nat → Nat → Prop} {M M' : Mm} (h : EfH q P M M') (hs : ∀ a b j, P a b j → Q a b j) : EfH q Q M M' := ⟨Ef_mono h.1 hs, h.2⟩
theorem EfH_Scr {Y : Ly} {q : Nat → Nat → Nat} {nL W nB : Nat} {M M' : Mm} (hC : SC Y q nL W nB) (h : Scr q M M') : EfH q P4 M M' := ⟨Ef_Scr hC h, h.2.1 23 (by decide), h.2.1 24 (by decide)⟩
theorem EfH_sI {Y : Ly} {q : Nat → Nat → Nat} {nL W nB : Nat} {P : Nat → Nat → Nat → Prop} {M M' : Mm} (hC : SC Y q nL W nB) {a b j : Nat} {v : Int32} (e : M' = sI M (q a b) (m1 (mI M (q a b)) j v)) (h : P a b j) : EfH q P M M' := ⟨Ef_sI hC e h, by rw [e]; rfl, by rw [e]; rfl⟩
theorem EfH_sIr {Y : Ly} {q : Nat → Nat → Nat} {nL W nB : Nat} {P : Nat → Nat → Nat → Prop} {M M' : Mm} (hC : SC Y q nL W nB) {a b : Nat} {f : Nat → Int32} (e : M' = sI M (q a b) f) (h : ∀ j, P a b j) : EfH q P M M' := ⟨Ef_sIr hC e h, by rw [e]; rfl, by rw [e]; rfl⟩
/-- the places that tell the model's logs -/
def PLg : Nat → Nat → Nat → Prop := fun a b j => a = 20 ∧ ((b = 0 ∧ (j = 1 ∨ j = 2 ∨ j = 3 ∨ j = 18 ∨ j = 25)) ∨ b = 20 ∨ b = 21 ∨ b = 22 ∨ b = 23 ∨ b = 24 ∨ b = 25 ∨ b = 27 ∨ b = 28 ∨ b = 29 ∨ b = 30 ∨ b = 31)
theorem LogM_ef {q : Nat → Nat → Nat} {nL W nB : Nat} {P : Nat → Nat → Nat → Prop} {M M' : Mm} {st en : Nat → Int64} {S : Nat → List Sg} {B : List Bm} {hp ht : Nat} (h : LogM q nL W nB M st en S B hp ht) (e : EfH q P M M') (hP : ∀ a b j, PLg a b j → ¬ P a b j) : LogM q nL W nB M' st en S B hp ht :=
  LogM_of h (fun j hj => Ef_i e.1 (hP _ _ _ ⟨rfl, Or.inl ⟨rfl, hj⟩⟩)) (fun b hb => Ef_I e.1 (fun j => hP _ _ _ ⟨rfl, by omega⟩)) (fun b hb => Ef_J e.1 (fun j => hP _ _ _ ⟨rfl, by omega⟩)) e.2
/-! the model reads the records of a batch -/
theorem m_bok {nL W nB : Nat} {q : Nat → Nat → Nat} {M : Mm} {S : Nat → List Sg} {B : List Bm} {st en : Nat → Int64} {hp ht i : Nat} (hOK : LogOK nL S) (hLM : LogM q nL W nB M st en S B hp ht) {x : Bm} (hx : B[i]? = some x) : BatOK (mB x) := by
  have hk := hLM.2.2.2.2.2.2.2.2
  have hm := List.mem_of_getElem? hx
  obtain ⟨s, h1, h2, h3⟩ := Lnk_mem hk hm
  exact hOK (mL x) (hk.1 x hm) _ (List.mem_flatMap.mpr ⟨s, h1, h3⟩)
theorem m_readsB {Y : Ly} {q : Nat → Nat → Nat} {nL W nB : Nat} {hp ht : Nat} {S : Nat → List Sg} {B : List Bm} {st en : Nat → Int64} {M : Mm} (hC : SC Y q nL W nB) (hM : SM q (mR M)) (hG : Geo nL W nB S) (hLM : LogM q nL W nB M st en S B hp ht) {i : Nat} {x : Bm} {Kn : Mm → Prop} (hx : B[i]? = some x) (h : ∀ M', Scr q M M' → mR M' (q 20 0) 40 = some (q 20 hp) → mI M' (q 20 0) 42 = nI (mA x + 61) → mI M' (q 20 0) 41 = nI (mA x + mN x) → Kn M') : f_X12_readsBatch Y (q 20 0) (nI i) M Kn := by
  have hd := sdims hC
  have hct := Lnk_count hG hLM.2.2.2.2.2.2.2.2
  have hi := some_lt hx
  obtain ⟨v1, v2, v3, v4, v5, v6, v7, v8, v9⟩ := m_at hG hLM hx
  have hin : ∀ b, yN Y b = 4500 → vp_in (nI i) (yN Y b) := fun b hb => by rw [hb]; exact vp_in_nI (by omega) (by decide)
  unfold f_X12_readsBatch
  refine ⟨sk_20_0 hC, _, hLM.2.2.2.2.1.2.1, _, sm_20 hM, sk_20_21 hC, hin _ (sn_20_21 hC), _, sm_20 hM, sk_20_21 hC, hin _ (sn_20_21 hC), _, sm_21 hM, sk_20_22 hC, hin _ (sn_20_22 hC), ?_⟩
  rw [nI_clamp (by omega), v2, v3, show nI (mA x) + 61 = nI (mA x + 61) from nI_add _ 61, nI_add]
  exact m_reads hC (fun M' s r a b _ _ => h M' s r a b)
theorem m_rdB {Y : Ly} {q : Nat → Nat → Nat} {nL W nB : Nat} {hp ht : Nat} {S : Nat → List Sg} {B : List Bm} {st en : Nat → Int64} {M : Mm} (hC : SC Y q nL W nB) (hM : SM q (mR M)) (hG : Geo nL W nB S) (hLM : LogM q nL W nB M st en S B hp ht) (hOK : LogOK nL S) {i k : Nat} {x : Bm} {c : Rc} {Kn : Int32 → Mm → Prop} (hx : B[i]? = some x) (hk : (rsB (mB x))[k]? = some c) (h40 : mR M (q 20 0) 40 = some (q 20 hp)) (h41 : mI M (q 20 0) 41 = nI (mA x + mN x)) (h42 : mI M (q 20 0) 42 = nI (mA x + rp (rsB (mB x)) k))
    (h : ∀ M', Scr q M M' → mR M' (q 20 0) 40 = some (q 20 hp) → mI M' (q 20 0) 41 = nI (mA x + mN x) → mI M' (q 20 0) 46 = nI (mA x + rp (rsB (mB x)) k) → mI M' (q 20 0) 42 = nI (mA x + rp (rsB (mB x)) (k + 1)) → mI M' (q 20 0) 49 = nI (mA x + rp (rsB (mB x)) k + rKa c) → mI M' (q 20 0) 51 = nI (mA x + rp (rsB (mB x)) k + rVa c) → mJ M' (q 20 0) 47 = ftB (mB x) + rT c → mJ M' (q 20 0) 48 = rO c → mJ M' (q 20 0) 50 = rK c → mJ M' (q 20 0) 52 = rV c → Kn 1 M') : f_X12_readRecord Y (q 20 0) (ftB (mB x)) M Kn := by
  have hb := m_bok hOK hLM hx
  obtain ⟨la, hla, hlaB, hrec⟩ := Bat_rec hb
  have h61 := hb.1
  obtain ⟨v1, v2, v3, v4, v5, v6, v7, v8, v9⟩ := m_at hG hLM hx
  have hH := hLM.2.2.2.2.1
  obtain ⟨kh, nh⟩ := hp_k hC hH.1
  obtain ⟨h1, h2, h3⟩ := rp_at hrec.1 h61 hk
  have hmN : mN x = (mB x).length := rfl
  have hLd : Lie (mI M (q 20 hp)) (mA x + rp (rsB (mB x)) k) (m8 ((mB x).drop (rp (rsB (mB x)) k))) := by
    rw [m8_drop]; exact Lie_drop v5 _ (by rw [m8_len]; omega)
  refine m_rec hC h40 (by rcases hH.1 with e | e <;> omega) kh hLd (Bys_drop v6 _) (by rw [List.length_drop]; omega) (by omega) (by omega) h41 h42 ?_ (fun hn => absurd (hrec.2.2.2.1 c (List.mem_of_getElem? hk)).1 (hn c h1))
  intro c' hc' hok M' S' w40 w41 w44 w45 w46 w42 w49 w51 w47 w48 w50 w52
  have := RF_fun hc' h1
  subst this
  exact h M' S' w40 w41 w46 (by rw [w42, rp_s hk]; congr 1; omega) w49 w51 w47 w48 w50 w52
theorem m_lastOffset {Y : Ly} {q : Nat → Nat → Nat} {nL W nB : Nat} {hp ht : Nat} {S : Nat → List Sg} {B : List Bm} {st en : Nat → Int64} {M : Mm} (hC : SC Y q nL W nB) (hM : SM q (mR M)) (hG : Geo nL W nB S) (hLM : LogM q nL W nB M st en S B hp ht) (hOK : LogOK nL S) {i : Nat} {x : Bm} {Kn : Int64 → Mm → Prop} (hx : B[i]? = some x) (h : ∀ M', Scr q M M' → Kn (hiB (mB x)) M') : f_X12_lastOffset Y (q 20 0) (nI i) M Kn := by
  have hb := m_bok hOK hLM hx
  obtain ⟨la, hla, hlaB, hrec⟩ := Bat_rec hb
  have hlen := hrec.2.2.1
  unfold f_X12_lastOffset
  refine ⟨sk_20_0 hC, m_ba hC hM hG hLM hx (m_la hC hM hG hLM hx (fun x6 e6 => m_readsB hC hM hG hLM hx ?_))⟩
  intro M1 S1 r40 r42 r41
  refine LOOP3_inv (fun x8 x9 M10 => ∃ k, k ≤ (rsB (mB x)).length ∧ x9 = nI k ∧ x8 = baB (mB x) + lsO (laB (mB x)).toInt64 ((rsB (mB x)).take k) ∧ Scr q M M10 ∧ mR M10 (q 20 0) 40 = some (q 20 hp) ∧ mI M10 (q 20 0) 41 = nI (mA x + mN x) ∧ mI M10 (q 20 0) 42 = nI (mA x + rp (rsB (mB x)) k)) (fun _ x9 _ => (rsB (mB x)).length - x9.toNatClampNeg) ?_ _ _ _ ⟨0, by omega, rfl, by rw [e6]; rfl, S1, r40, r41, by rw [rp_0]; exact r42⟩
  rintro x8 x9 M10 again ⟨k, hk, rfl, rfl, S10, s40, s41, s42⟩ hag
  have hLM2 := Scr_LogM hC S10 hLM
  have hM2 := Scr_SM S10 hM
  unfold L_X12_lastOffset_21
  refine m_ct hC hM2 hG hLM2 hx ?_
  rw [hrec.2.1, nI_cmp (by omega) (by omega)]
  refine ⟨fun c => ?_, fun c => m_ft hC hM2 hG hLM2 hx ?_⟩
  · have := h M10 S10
    unfold hiB at this
    rwa [List.take_of_length_le c]
  · obtain ⟨r, hr⟩ := lt_some (show k < (rsB (mB x)).length by omega)
    refine m_rdB hC hM2 hG hLM2 hOK hx hr s40 s41 s42 ?_
    intro M' S' t40 t41 t46 t42 t49 t51 t47 t48 t50 t52
    refine m_ba hC (Scr_SM S' hM2) hG (Scr_LogM hC S' hLM2) hx (fun x20 e20 x21 e21 => ?_)
    rw [t48] at e20
    rw [nI_1] at e21
    subst e20 e21
    refine hag _ _ _ ⟨k + 1, by omega, rfl, by rw [take_s hr, lsO_s], Scr_trans S10 S', t40, t41, t42⟩ ?_
    rw [nI_clamp (by omega), nI_clamp (by omega)]; omega
/-- the batches of one log, from some place on -/
def mb (l : Nat) (B : List Bm) : List Bt := (ofL l B).map mB
theorem mb_BS {nL : Nat} {S : Nat → List Sg} {B : List Bm} (h : Lnk nL S B) {l : Nat} (hl : l ≤ nL) : mb l B = BS (S l) := by
  have := congrArg (List.map (fun p : Nat × Bt => p.2)) (h.2 l hl)
  rw [List.map_map, SB_BS] at this
  exact this
theorem mb_in {l i : Nat} {B : List Bm} {x : Bm} (hx : B[i]? = some x) (h : mL x = l) : mb l (B.drop i) = mB x :: mb l (B.drop (i + 1)) := by
  unfold mb ofL
  rw [drop_s hx, List.filter_cons_of_pos (by rw [decide_eq_true_eq]; exact h)]; rfl
theorem mb_out {l i : Nat} {B : List Bm} {x : Bm} (hx : B[i]? = some x) (h : ¬ mL x = l) : mb l (B.drop i) = mb l (B.drop (i + 1)) := by
  unfold mb ofL
  rw [drop_s hx, List.filter_cons_of_neg (by rw [decide_eq_true_eq]; exact h)]
theorem mb_end {l i : Nat} {B : List Bm} (h : B.length ≤ i) : mb l (B.drop i) = [] := by rw [List.drop_eq_nil_of_le h]; rfl
