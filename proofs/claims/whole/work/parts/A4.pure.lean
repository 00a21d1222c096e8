/-! retention keeps what holds -/
theorem Ord_drop {b : Bt} {bs : List Bt} {e : Nat} : ∀ (xs : List Bt) (s : Nat), Ord s (xs ++ b :: bs) e → ∃ a, baB b = lN a ∧ s ≤ a ∧ Ord a (b :: bs) e
  | [], s, ⟨a, la, h1, h2, h3, h4, h5⟩ => ⟨a, h1, h3, a, la, h1, h2, Nat.le_refl _, h4, h5⟩
  | x :: xs, s, ⟨a, la, h1, h2, h3, h4, h5⟩ => by
    obtain ⟨a', g1, g2, g3⟩ := Ord_drop xs _ h5
    exact ⟨a', g1, by omega, g3⟩
theorem BS_tk (S : List Sg) (n : Nat) : BS S = BS (S.take n) ++ BS (S.drop n) := by rw [← BS_app, List.take_append_drop]
theorem Geo_drop {nL W nB l n : Nat} {S : Nat → List Sg} (hG : Geo nL W nB S) (hl : l ≤ nL) : Geo nL W nB (m1 S l ((S l).drop n)) := by
  refine ⟨fun l2 h2 => ?_, fun b => ?_⟩
  · by_cases z : l2 = l
    · subst z
      rw [m1_at]
      obtain ⟨a, c⟩ := hG.1 l2 h2
      exact ⟨by rw [List.length_drop]; omega, fun s hs => c s (List.mem_of_mem_drop hs)⟩
    · rw [m1_nat _ _ z]; exact hG.1 l2 h2
  · have e := (FFs_upd (W := W) (S := S) (T := (S l).drop n) (l := l) (b := b) (n := nL + 1)).2 (by omega)
    have h1 := hG.2 b
    have h2 : cv W ((S l).map (fun s => s.1)) b = cv W (((S l).take n).map (fun s => s.1)) b + cv W (((S l).drop n).map (fun s => s.1)) b := by
      rw [← cv_app, ← List.map_append, List.take_append_drop]
    omega
theorem RetR_IL {nL W nB l n b : Nat} {st st' : Nat → Int64} {L L' : LSt} {r : Int32} (hI : IL nL W nB n st L) (hl : l ≤ nL) (h : RetR l b st L st' L' r) : IL nL W nB n st' L' := by
  obtain ⟨hG, hOK, hE, hN, hP⟩ := hI
  rcases h with ⟨_, rfl, rfl, _⟩ | ⟨_, l', ad, dn, full, b0, bs, hb0, hS, rfl, rfl, _⟩
  · exact ⟨hG, hOK, hE, hN, hP⟩
  · obtain ⟨k, hk⟩ : ∃ k, k = rtG b (szs (lS L l)) (lS L l) := ⟨_, rfl⟩
    rw [← hk] at hb0 ⊢
    have hsub : ∀ x, x ∈ BS ((lS L l).drop k) → x ∈ BS (lS L l) := fun x hx => by rw [BS_tk (lS L l) k]; exact List.mem_append_right _ hx
    refine ⟨Geo_drop hG hl, ?_, ?_, ?_, ?_⟩
    · intro l2 h2 x hx
      have hx' : x ∈ BS (m1 (lS L) l ((lS L l).drop k) l2) := hx
      by_cases z : l2 = l
      · subst z
        rw [m1_at] at hx'
        exact hOK l2 h2 x (hsub x hx')
      · rw [m1_nat _ _ z] at hx'; exact hOK l2 h2 x hx'
    · intro l2 h2
      show ∃ s e, m1 st l (baB b0) l2 = lN s ∧ lE L l2 = lN e ∧ e ≤ n ∧ Ord s (BS (m1 (lS L) l ((lS L l).drop k) l2)) e
      obtain ⟨s, e, a1, a2, a3, a4⟩ := hE l2 h2
      by_cases z : l2 = l
      · subst z
        rw [m1_at, m1_at, hb0]
        rw [BS_tk (lS L l2) k, hb0] at a4
        obtain ⟨a, g1, g2, g3⟩ := Ord_drop _ _ a4
        exact ⟨a, e, g1, a2, a3, g3⟩
      · rw [m1_nat _ _ z, m1_nat _ _ z]
        exact ⟨s, e, a1, a2, a3, a4⟩
    · intro x hx
      have hx' : x ∈ BS (m1 (lS L) l ((lS L l).drop k) nL) := hx
      by_cases z : nL = l
      · subst z
        rw [m1_at] at hx'
        exact hN x (hsub x hx')
      · rw [m1_nat _ _ z] at hx'; exact hN x hx'
    · rcases SpR_dn hS with z | ⟨z, _⟩
      · exact Or.inl ⟨z, (SpR_up hS z).2.2⟩
      · exact Or.inr z
/-! frames of the class -/
def Ec (q : Nat → Nat → Nat) (P : Nat → Nat → Nat → Prop) (M M' : Mm) : Prop := (∀ a b j, ¬ P a b j → mI M' (q a b) j = mI M (q a b) j ∧ mJ M' (q a b) j = mJ M (q a b) j) ∧ mR M' = mR M
theorem Ec_refl (q : Nat → Nat → Nat) (P : Nat → Nat → Nat → Prop) (M : Mm) : Ec q P M M := ⟨fun _ _ _ _ => ⟨rfl, rfl⟩, rfl⟩
theorem Ec_trans {q : Nat → Nat → Nat} {P : Nat → Nat → Nat → Prop} {M M' M'' : Mm} (h : Ec q P M M') (k : Ec q P M' M'') : Ec q P M M'' :=
  ⟨fun a b j n => ⟨(k.1 a b j n).1.trans (h.1 a b j n).1, (k.1 a b j n).2.trans (h.1 a b j n).2⟩, k.2.trans h.2⟩
theorem Ec_mono {q : Nat → Nat → Nat} {P Q : Nat → Nat → Nat → Prop} {M M' : Mm} (h : Ec q P M M') (hs : ∀ a b j, P a b j → Q a b j) : Ec q Q M M' := ⟨fun a b j n => h.1 a b j (fun z => n (hs a b j z)), h.2⟩
theorem Ec_H {q : Nat → Nat → Nat} {P : Nat → Nat → Nat → Prop} {M M' : Mm} (h : Ec q P M M') : EfH q P M M' := ⟨⟨h.1, fun _ _ => by rw [h.2], fun _ _ _ _ => by rw [h.2]⟩, by rw [h.2], by rw [h.2]⟩
theorem Ec_Fr {Y : Ly} {q : Nat → Nat → Nat} {nL W nB : Nat} {A : Nat → Nat → Prop} {M M' : Mm} (hC : SC Y q nL W nB) (h : Fr q A M M') : Ec q (fun a b _ => A a b) M M' := ⟨(Ef_Fr hC h).1, h.2⟩
theorem Ec_sI {Y : Ly} {q : Nat → Nat → Nat} {nL W nB : Nat} {P : Nat → Nat → Nat → Prop} {M M' : Mm} (hC : SC Y q nL W nB) {a b j : Nat} {v : Int32} (e : M' = sI M (q a b) (m1 (mI M (q a b)) j v)) (h : P a b j) : Ec q P M M' := ⟨(Ef_sI hC e h).1, by rw [e]; rfl⟩
theorem Ec_sIr {Y : Ly} {q : Nat → Nat → Nat} {nL W nB : Nat} {P : Nat → Nat → Nat → Prop} {M M' : Mm} (hC : SC Y q nL W nB) {a b : Nat} {f : Nat → Int32} (e : M' = sI M (q a b) f) (h : ∀ j, P a b j) : Ec q P M M' := ⟨(Ef_sIr hC e h).1, by rw [e]; rfl⟩
/-! the tape -/
def TpC (q : Nat → Nat → Nat) (M : Mm) (tp : List Int32) : Prop := mI M (q 0 0) 2 = nI tp.length ∧ Lie (mI M (q 0 1)) 0 tp
def TpM (q : Nat → Nat → Nat) (M : Mm) (tp : List Int32) : Prop := mI M (q 20 0) 11 = nI tp.length ∧ Lie (mI M (q 20 11)) 0 (m8 tp)
def TpI (tp : List Int32) : Prop := tp.length ≤ 16384 ∧ Bys tp
def PcT : Nat → Nat → Nat → Prop := fun a b j => a = 0 ∧ ((b = 0 ∧ j = 2) ∨ b = 1)
def PmT : Nat → Nat → Nat → Prop := fun a b j => a = 20 ∧ ((b = 0 ∧ (j = 0 ∨ j = 11)) ∨ b = 11)
def fdB (a b c d e : Int32) : List Int32 := pb a.toInt64 4 ++ (pb b.toInt64 4 ++ (pb c.toInt64 4 ++ (pb d.toInt64 4 ++ pb e.toInt64 4)))
theorem fdB_len (a b c d e : Int32) : (fdB a b c d e).length = 20 := by simp [fdB, pb_len]
theorem i64_le (a b : Int32) : a.toInt64 ≤ b.toInt64 ↔ a ≤ b := by
  rw [Int64.le_iff_toInt_le, Int32.le_iff_toInt_le, Int32.toInt_toInt64, Int32.toInt_toInt64]
theorem s_within {Y : Ly} {v lo hi : Int32} {lo' hi' : Int64} {M : Mm} {Kn : Int32 → Mm → Prop} (hl : lo' = lo.toInt64) (hh : hi' = hi.toInt64) (h1 : lo ≤ v ∧ v ≤ hi → Kn 1 M) (h0 : ¬ (lo ≤ v ∧ v ≤ hi) → Kn 0 M) : f_X11_isWithin Y v.toInt64 lo' hi' M Kn := by
  refine s_isWithin ?_
  rw [hl, hh]
  split
  · rename_i g; rw [i64_le, i64_le] at g; exact h1 g
  · rename_i g; rw [i64_le, i64_le] at g; exact h0 g
theorem Lie_ext {f : Nat → Int32} {tp X : List Int32} (h : Lie f 0 tp) : Lie (wr f tp.length X) 0 (tp ++ X) :=
  Lie_app.mpr ⟨wr_keep h (Or.inl (by omega)), by rw [Nat.zero_add]; exact wr_Lie _ _ _⟩
theorem wr_fdB (f : Nat → Int32) (t : Nat) (a b c d e : Int32) : wr (wr (wr (wr (wr f t (pb a.toInt64 4)) (t + 4) (pb b.toInt64 4)) (t + 8) (pb c.toInt64 4)) (t + 12) (pb d.toInt64 4)) (t + 16) (pb e.toInt64 4) = wr f t (fdB a b c d e) := by
  unfold fdB
  rw [wr_app, wr_app, wr_app, wr_app]
  simp only [pb_len, Nat.add_assoc, Nat.reduceAdd]
theorem TpC_R {Y : Ly} {q : Nat → Nat → Nat} {nL W nB : Nat} {P : Nat → Nat → Nat → Prop} {M M' : Mm} {tp : List Int32} (h : TpC q M tp) (e : Ec q P M M') (hP : ∀ a b j, PcT a b j → ¬ P a b j) : TpC q M' tp :=
  ⟨by rw [(e.1 0 0 2 (hP _ _ _ ⟨rfl, Or.inl ⟨rfl, rfl⟩⟩)).1]; exact h.1, Lie_same h.2 (fun j _ _ => (e.1 0 1 j (hP _ _ _ ⟨rfl, Or.inr rfl⟩)).1)⟩
theorem c_feed {Y : Ly} {q : Nat → Nat → Nat} {nL W nB : Nat} {M : Mm} {tp : List Int32} {a b c d e : Int32} {Kn : Int32 → Mm → Prop} {Xn : String → Mm → Prop} (hC : SC Y q nL W nB) (hR : SR q nL (mR M)) (hT : TpC q M tp) (hI : TpI tp) (h0 : ¬ tp.length + 20 ≤ 16384 → Xn iSE M)
    (h : tp.length + 20 ≤ 16384 → ∀ M', Ec q PcT M M' → TpC q M' (tp ++ fdB a b c d e) → Kn (nI (tp.length + 20)) M') : f_X11_feed Y (q 0 0) a b c d e M Kn Xn := by
  have hl := hI.1
  have n1 := sn_0_1 hC
  have ad : ∀ k : Nat, nI tp.length + nI k = nI (tp.length + k) := fun k => nI_add _ _
  unfold f_X11_feed
  refine ⟨sk_0_0 hC, ?_⟩
  rw [hT.1, show nI tp.length + 20 = nI (tp.length + 20) from ad 20]
  refine pk_lt 16384 (tp.length + 20) (fun g => ?_) (fun g => ?_)
  · exact ⟨fun z => absurd rfl z, fun _ => h0 (by omega)⟩
  refine ⟨fun _ => ?_, fun z => absurd z (by decide)⟩
  have hne : q 0 1 ≠ q 0 0 := q_ne hC (by decide)
  have st : ∀ f : Nat → Int32, mI (sI M (q 0 1) f) (q 0 0) = mI M (q 0 0) := fun f => I_ne hC _ _ (by decide)
  dsimp only
  rw [hT.1]
  refine ⟨_, sr_0_0_1 hR, w_put (n := 4) (sk_0_1 hC) (by omega) (by omega) ⟨_, sr_0_0_1 hR, ?_⟩⟩
  rw [st, hT.1, show nI tp.length + 4 = nI (tp.length + 4) from ad 4]
  refine w_put (n := 4) (sk_0_1 hC) (by omega) (by omega) ⟨_, sr_0_0_1 hR, ?_⟩
  rw [sI_sI, st, hT.1, show nI tp.length + 8 = nI (tp.length + 8) from ad 8]
  refine w_put (n := 4) (sk_0_1 hC) (by omega) (by omega) ⟨_, sr_0_0_1 hR, ?_⟩
  rw [sI_sI, st, hT.1, show nI tp.length + 12 = nI (tp.length + 12) from ad 12]
  refine w_put (n := 4) (sk_0_1 hC) (by omega) (by omega) ⟨_, sr_0_0_1 hR, ?_⟩
  rw [sI_sI, st, hT.1, show nI tp.length + 16 = nI (tp.length + 16) from ad 16]
  refine w_put (n := 4) (sk_0_1 hC) (by omega) (by omega) (fun M14 e14 => ?_)
  rw [sI_sI] at e14
  simp only [mI_sI_self, st, hT.1] at e14
  rw [show nI tp.length + 20 = nI (tp.length + 20) from ad 20, wr_fdB] at e14
  have e2 : mI M14 (q 0 0) 2 = nI (tp.length + 20) := by rw [e14, mI_sI_self]; exact m1_at _ _ _
  rw [e2]
  refine h g M14 ?_ ⟨by rw [e2, List.length_append, fdB_len], ?_⟩
  · refine Ec_trans (Ec_sIr hC (f := wr (mI M (q 0 1)) tp.length (fdB a b c d e)) rfl (fun j => ⟨rfl, Or.inr rfl⟩)) (Ec_sI hC (j := 2) (v := nI (tp.length + 20)) ?_ ⟨rfl, Or.inl ⟨rfl, rfl⟩⟩)
    rw [st]; exact e14
  · rw [e14, I_ne hC _ _ (by decide), mI_sI_self]
    exact Lie_ext hT.2
theorem m8_ext {f : Nat → Int32} {tp X : List Int32} (h : Lie f 0 (m8 tp)) : Lie (wr f tp.length (m8 X)) 0 (m8 (tp ++ X)) := by
  rw [m8_app, ← m8_len tp]; exact Lie_ext h
theorem m_tapePut {Y : Ly} {q : Nat → Nat → Nat} {nL W nB : Nat} {M : Mm} {tp : List Int32} {n : Nat} {v : Int64} {Kn : Mm → Prop} (hC : SC Y q nL W nB) (hM : SM q (mR M)) (hT : TpM q M tp) (hn : tp.length + n ≤ 16384) (h8 : n ≤ 8) (h : ∀ M', Ec q PmT M M' → mI M' (q 20 0) 0 = mI M (q 20 0) 0 → TpM q M' (tp ++ pb v n) → Kn M') : f_X12_put Y (q 20 0) v (nI n) M Kn := by
  refine w_mput (sk_20_0 hC) (sm_10 hM) (sk_20_11 hC) (q_ne hC (by decide)) hT.1 (by rw [sn_20_11 hC]; exact hn) (by rw [sn_20_11 hC]; decide) h8 ?_
  have hne : q 20 11 ≠ q 20 0 := q_ne hC (by decide)
  have e0 : mI (mq M (q 20 0) (q 20 11) (pb v n) tp.length) (q 20 0) = m1 (mI M (q 20 0)) 11 (nI (tp.length + (pb v n).length)) := mq_v _ _ _ _ _
  refine h _ ⟨fun a b j np => ⟨?_, rfl⟩, rfl⟩ (by rw [e0]; exact m1_nat _ _ (by decide)) ⟨by rw [e0, m1_at, List.length_append], ?_⟩
  · by_cases z : a = 20 ∧ b = 0
    · obtain ⟨rfl, rfl⟩ := z
      rw [e0]
      exact m1_nat _ _ (fun y => np ⟨rfl, Or.inl ⟨rfl, Or.inr y⟩⟩)
    · rw [mq_n _ _ _ (q_ne hC z) (q_ne hC (fun y => np ⟨y.1, Or.inr y.2⟩))]
  · rw [mq_t _ _ _ hne]
    exact m8_ext hT.2
theorem cd_T {Y : Ly} {q : Nat → Nat → Nat} {nL W nB : Nat} {M : Mm} {tp : List Int32} (hC : SC Y q nL W nB) (h : TpM q M tp) (v : Int32) : TpM q (cd q M v) tp := by
  unfold cd
  refine ⟨by rw [mI_sI_self, m1_nat _ _ (by decide)]; exact h.1, by rw [I_ne hC _ _ (by decide)]; exact h.2⟩
theorem cd_0 (q : Nat → Nat → Nat) (M : Mm) (v : Int32) : mI (cd q M v) (q 20 0) 0 = v := by unfold cd; rw [mI_sI_self]; exact m1_at _ _ _
theorem cd_Ec {Y : Ly} {q : Nat → Nat → Nat} {nL W nB : Nat} {M : Mm} {P : Nat → Nat → Nat → Prop} (hC : SC Y q nL W nB) (v : Int32) (h : P 20 0 0) : Ec q P M (cd q M v) := Ec_sI hC rfl h
theorem m_feed {Y : Ly} {q : Nat → Nat → Nat} {nL W nB : Nat} {M : Mm} {tp : List Int32} {a b c d e : Int32} {Kn : Int32 → Mm → Prop} (hC : SC Y q nL W nB) (hM : SM q (mR M)) (hT : TpM q M tp) (hI : TpI tp) (h0 : ¬ tp.length + 20 ≤ 16384 → Kn 0 (cd q M 1))
    (h : tp.length + 20 ≤ 16384 → ∀ M', Ec q PmT M M' → mI M' (q 20 0) 0 = 0 → TpM q M' (tp ++ fdB a b c d e) → Kn (nI (tp.length + 20)) M') : f_X12_feed Y (q 20 0) a b c d e M Kn := by
  have hl := hI.1
  have ad : nI tp.length + 20 = nI (tp.length + 20) := nI_add _ _
  unfold f_X12_feed
  refine ⟨sk_20_0 hC, ?_⟩
  rw [hT.1, ad]
  refine pk_le (tp.length + 20) 16384 (fun g => ?_) (fun g => ?_)
  · intro M3 e3
    have e3 : M3 = cd q M 0 := e3
    subst e3
    refine ⟨fun _ => ?_, fun z => absurd (by rw [cd_0]; decide) z⟩
    have len : ∀ (x : List Int32) (v : Int64), (x ++ pb v 4).length = x.length + 4 := fun x v => by rw [List.length_append, pb_len]
    refine m_tapePut (n := 4) hC (by exact hM) (cd_T hC hT 0) (by omega) (by decide) (fun M5 E5 z5 T5 => ?_)
    refine m_tapePut (n := 4) hC (by rw [E5.2]; exact hM) T5 (by rw [len]; omega) (by decide) (fun M6 E6 z6 T6 => ?_)
    refine m_tapePut (n := 4) hC (by rw [E6.2, E5.2]; exact hM) T6 (by rw [len, len]; omega) (by decide) (fun M7 E7 z7 T7 => ?_)
    refine m_tapePut (n := 4) hC (by rw [E7.2, E6.2, E5.2]; exact hM) T7 (by rw [len, len, len]; omega) (by decide) (fun M8 E8 z8 T8 => ?_)
    refine m_tapePut (n := 4) hC (by rw [E8.2, E7.2, E6.2, E5.2]; exact hM) T8 (by rw [len, len, len, len]; omega) (by decide) (fun M9 E9 z9 T9 => ?_)
    have eT : tp ++ pb a.toInt64 4 ++ pb b.toInt64 4 ++ pb c.toInt64 4 ++ pb d.toInt64 4 ++ pb e.toInt64 4 = tp ++ fdB a b c d e := by unfold fdB; simp only [List.append_assoc]
    rw [eT] at T9
    rw [T9.1, List.length_append, fdB_len]
    exact h g M9 (Ec_trans (cd_Ec hC 0 ⟨rfl, Or.inl ⟨rfl, Or.inl rfl⟩⟩) (Ec_trans E5 (Ec_trans E6 (Ec_trans E7 (Ec_trans E8 E9))))) (by rw [z9, z8, z7, z6, z5, cd_0]) T9
  · intro M3 e3
    have e3 : M3 = cd q M 1 := e3
    subst e3
    refine ⟨fun z => ?_, fun _ => h0 (by omega)⟩
    rw [cd_0] at z; exact absurd z (by decide)
