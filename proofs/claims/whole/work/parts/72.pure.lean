/-! what the model uses to read with -/
def ScI (f f0 : Nat → Int32) : Prop := ∀ j, ¬ (j = 41 ∨ j = 42 ∨ j = 43 ∨ j = 44 ∨ j = 45 ∨ j = 46 ∨ j = 49 ∨ j = 51) → f j = f0 j
def ScJ (g g0 : Nat → Int64) : Prop := ∀ j, ¬ (j = 47 ∨ j = 48 ∨ j = 50 ∨ j = 52) → g j = g0 j
def Scr (q : Nat → Nat → Nat) (M M' : Mm) : Prop := FrM q (fun a b => a = 20 ∧ b = 0) M M' ∧ (∀ f, f ≠ 40 → mR M' (q 20 0) f = mR M (q 20 0) f) ∧ ScI (mI M' (q 20 0)) (mI M (q 20 0)) ∧ ScJ (mJ M' (q 20 0)) (mJ M (q 20 0))
theorem Scr_refl (q : Nat → Nat → Nat) (M : Mm) : Scr q M M := ⟨FrM_refl _ _ _, fun _ _ => rfl, fun _ _ => rfl, fun _ _ => rfl⟩
theorem Scr_trans {q : Nat → Nat → Nat} {M M' M'' : Mm} (h : Scr q M M') (k : Scr q M' M'') : Scr q M M'' :=
  ⟨FrM_trans h.1 k.1, fun f hf => (k.2.1 f hf).trans (h.2.1 f hf), fun j hj => (k.2.2.1 j hj).trans (h.2.2.1 j hj), fun j hj => (k.2.2.2 j hj).trans (h.2.2.2 j hj)⟩
theorem Scr_SM {q : Nat → Nat → Nat} {M M' : Mm} (h : Scr q M M') (hM : SM q (mR M)) : SM q (mR M') := SM_of hM (fun f _ _ h40 => h.2.1 f h40)
theorem Scr_I {Y : Ly} {q : Nat → Nat → Nat} {nL W nB : Nat} (hC : SC Y q nL W nB) {M M' : Mm} (h : Scr q M M') {c d : Nat} (hn : ¬ (c = 20 ∧ d = 0)) : mI M' (q c d) = mI M (q c d) := FrM_I hC h.1 hn
theorem Scr_J {Y : Ly} {q : Nat → Nat → Nat} {nL W nB : Nat} (hC : SC Y q nL W nB) {M M' : Mm} (h : Scr q M M') {c d : Nat} (hn : ¬ (c = 20 ∧ d = 0)) : mJ M' (q c d) = mJ M (q c d) := FrM_J hC h.1 hn
theorem Scr_LogM {Y : Ly} {q : Nat → Nat → Nat} {nL W nB : Nat} (hC : SC Y q nL W nB) {M M' : Mm} {st en : Nat → Int64} {S : Nat → List Sg} {B : List Bm} {hp ht : Nat} (h : Scr q M M') (hL : LogM q nL W nB M st en S B hp ht) : LogM q nL W nB M' st en S B hp ht :=
  LogM_of hL (fun j hj => h.2.2.1 j (by omega)) (fun b hb => Scr_I hC h (by omega)) (fun b hb => Scr_J hC h (by omega)) ⟨h.2.1 23 (by decide), h.2.1 24 (by decide)⟩
theorem Scr_vq {q : Nat → Nat → Nat} {M : Mm} {f : Nat → Int32} {g : Nat → Int64} (hf : ScI f (mI M (q 20 0))) (hg : ScJ g (mJ M (q 20 0))) : Scr q M (vq M (q 20 0) f g) :=
  ⟨⟨fun x hx => ⟨vq_n _ _ _ (hx 20 0 ⟨rfl, rfl⟩), vq_Jn _ _ _ (hx 20 0 ⟨rfl, rfl⟩)⟩, fun x _ => rfl⟩, fun _ _ => rfl, by rw [vq_v]; exact hf, by rw [vq_J]; exact hg⟩
theorem Scr_sI {q : Nat → Nat → Nat} (M : Mm) {j : Nat} (v : Int32) (h : j = 41 ∨ j = 42 ∨ j = 43 ∨ j = 44 ∨ j = 45 ∨ j = 46 ∨ j = 49 ∨ j = 51) : Scr q M (sI M (q 20 0) (m1 (mI M (q 20 0)) j v)) :=
  ⟨FrM_of (Fr_sI _ _ _ _ ⟨rfl, rfl⟩), fun _ _ => rfl, fun i hi => by rw [mI_sI_self]; exact m1_ne _ _ (fun e => hi (by rw [e]; exact h)), fun _ _ => rfl⟩
theorem FrI_Sc {f f0 : Nat → Int32} (h : FrI f f0) : ScI f f0 := fun j hj => h j (by omega) (by omega) (by omega) (by omega) (by omega)
theorem FrJ_Sc {g g0 : Nat → Int64} (h : FrJ g g0) : ScJ g g0 := fun j hj => h j (by omega) (by omega) (by omega) (by omega)
theorem m_reads {Y : Ly} {q : Nat → Nat → Nat} {nL W nB b : Nat} {a e : Nat} {M : Mm} {Kn : Mm → Prop} (hC : SC Y q nL W nB) (h : ∀ M', Scr q M M' → mR M' (q 20 0) 40 = some (q 20 b) → mI M' (q 20 0) 42 = nI a → mI M' (q 20 0) 41 = nI e → mI M' (q 20 0) 44 = mI M (q 20 0) 44 → mI M' (q 20 0) 45 = mI M (q 20 0) 45 → Kn M') : f_X12_reads Y (q 20 0) (q 20 b) (nI a) (nI e) M Kn := by
  unfold f_X12_reads
  refine ⟨sk_20_0 hC, fun M2 e2 M3 e3 M4 e4 => ?_⟩
  have i2 : mI M2 = mI M := by rw [e2]; rfl
  have j2 : mJ M2 = mJ M := by rw [e2]; rfl
  have s2 : Scr q M M2 := by
    refine ⟨⟨fun x _ => by rw [i2, j2]; exact ⟨rfl, rfl⟩, fun x hx => by rw [e2, mR_sR_ne _ _ hx]⟩, fun f hf => by rw [e2, mR_sR_self]; simp [m1, hf], by rw [i2]; exact fun _ _ => rfl, by rw [j2]; exact fun _ _ => rfl⟩
  have s3 : Scr q M2 M3 := by rw [e3]; exact Scr_sI _ _ (by simp)
  have s4 : Scr q M3 M4 := by rw [e4]; exact Scr_sI _ _ (by simp)
  have z4 : mI M4 (q 20 0) = m1 (m1 (mI M (q 20 0)) 42 (nI a)) 41 (nI e) := by rw [e4, mI_sI_self, e3, mI_sI_self, i2]
  refine h M4 (Scr_trans s2 (Scr_trans s3 s4)) ?_ ?_ ?_ ?_ ?_
  · rw [e4, mR_sI, e3, mR_sI, e2, mR_sR_self]; simp [m1]
  · rw [z4]; simp [m1]
  · rw [z4]; simp [m1]
  · rw [z4]; simp [m1]
  · rw [z4]; simp [m1]
/-- a record read by the model, where its bytes lie in some array -/
theorem m_rec {Y : Ly} {q : Nat → Nat → Nat} {nL W nB b a e : Nat} {ft : Int64} {bs : List Int32} {M : Mm} {Kn : Int32 → Mm → Prop} (hC : SC Y q nL W nB) (hR : mR M (q 20 0) 40 = some (q 20 b)) (hb0 : b ≠ 0) (hkb : yK Y (q 20 b) = 101) (hL : Lie (mI M (q 20 b)) a (m8 bs)) (hBy : Bys bs) (he : e = a + bs.length) (hN : e ≤ yN Y (q 20 b)) (hb : yN Y (q 20 b) < 2 ^ 31) (h41 : mI M (q 20 0) 41 = nI e) (h42 : mI M (q 20 0) 42 = nI a)
    (hg : ∀ c, RF bs c → okT (ft + rT c) → ∀ M', Scr q M M' → mR M' (q 20 0) 40 = some (q 20 b) → mI M' (q 20 0) 41 = nI e → mI M' (q 20 0) 44 = mI M (q 20 0) 44 → mI M' (q 20 0) 45 = mI M (q 20 0) 45 → mI M' (q 20 0) 46 = nI a → mI M' (q 20 0) 42 = nI (a + rC c) → mI M' (q 20 0) 49 = nI (a + rKa c) → mI M' (q 20 0) 51 = nI (a + rVa c) → mJ M' (q 20 0) 47 = ft + rT c → mJ M' (q 20 0) 48 = rO c → mJ M' (q 20 0) 50 = rK c → mJ M' (q 20 0) 52 = rV c → Kn 1 M')
    (hx : (∀ c, RF bs c → ¬ okT (ft + rT c)) → ∀ M', Scr q M M' → mI M' (q 20 0) 44 = mI M (q 20 0) 44 → mI M' (q 20 0) 45 = mI M (q 20 0) 45 → mI M' (q 20 0) 46 = nI a → Kn 0 M') : f_X12_readRecord Y (q 20 0) ft M Kn := by
  subst he
  refine s_mread (sk_20_0 hC) hR hkb (q_ne hC (by omega)) hL hBy hN hb h41 h42 ?_ ?_
  · intro c hc hok f g hF hG e1 e2 e3 e4 e5 e6 e7 e8
    exact hg c hc hok _ (Scr_vq (FrI_Sc hF) (FrJ_Sc hG)) hR (by rw [vq_v, hF 41 (by decide) (by decide) (by decide) (by decide) (by decide)]; exact h41) (by rw [vq_v]; exact hF 44 (by decide) (by decide) (by decide) (by decide) (by decide)) (by rw [vq_v]; exact hF 45 (by decide) (by decide) (by decide) (by decide) (by decide)) (by rw [vq_v]; exact e1) (by rw [vq_v]; exact e2) (by rw [vq_v]; exact e3) (by rw [vq_v]; exact e4) (by rw [vq_J]; exact e5) (by rw [vq_J]; exact e6) (by rw [vq_J]; exact e7) (by rw [vq_J]; exact e8)
  · intro hn f g hF hG e1
    exact hx hn _ (Scr_vq (FrI_Sc hF) (FrJ_Sc hG)) (by rw [vq_v]; exact hF 44 (by decide) (by decide) (by decide) (by decide) (by decide)) (by rw [vq_v]; exact hF 45 (by decide) (by decide) (by decide) (by decide) (by decide)) (by rw [vq_v]; exact e1)
/-! the records of the tape -/
def okR (ft : Int64) (k : Nat) (bs : List Int32) (c : Rc) : Prop := RF bs c ∧ rO c = lN k ∧ okT (ft + rT c)
def ExR (ft gt : Int64) : Nat → Nat → Nat → List Int32 → Int64 → Int32 → Int32 → Prop
  | 0, _, a, bs, g, kd, pl => (bs ≠ [] ∧ kd = 4 ∧ pl = nI a) ∨ (bs = [] ∧ ¬ g = gt ∧ kd = 5 ∧ pl = 35) ∨ (bs = [] ∧ g = gt ∧ kd = 0 ∧ pl = -1)
  | n + 1, k, a, bs, g, kd, pl => (∃ c, okR ft k bs c ∧ ExR ft gt n (k + 1) (a + rC c) (bs.drop (rC c)) (if ft + rT c < g then g else ft + rT c) kd pl) ∨ ((∀ c, ¬ okR ft k bs c) ∧ kd = 4 ∧ pl = nI a)
theorem ExR_fun {ft gt : Int64} : ∀ {n k a : Nat} {bs : List Int32} {g : Int64} {x y x' y' : Int32}, ExR ft gt n k a bs g x y → ExR ft gt n k a bs g x' y' → x = x' ∧ y = y'
  | 0, _, _, _, _, _, _, _, _, h, h' => by
    rcases h with ⟨a, b, c⟩ | ⟨a, b, c, d⟩ | ⟨a, b, c, d⟩ <;> rcases h' with ⟨a', b', c'⟩ | ⟨a', b', c', d'⟩ | ⟨a', b', c', d'⟩
    · exact ⟨by rw [b, b'], by rw [c, c']⟩
    · exact absurd a' a
    · exact absurd a' a
    · exact absurd a a'
    · exact ⟨by rw [c, c'], by rw [d, d']⟩
    · exact absurd b' b
    · exact absurd a a'
    · exact absurd b b'
    · exact ⟨by rw [c, c'], by rw [d, d']⟩
  | n + 1, _, _, _, _, _, _, _, _, h, h' => by
    rcases h with ⟨c, a, b⟩ | ⟨a, b, d⟩
    · rcases h' with ⟨c', a', b'⟩ | ⟨a', b', d'⟩
      · have := RF_fun a.1 a'.1
        subst this
        exact ExR_fun b b'
      · exact absurd a (a' c)
    · rcases h' with ⟨c', a', b'⟩ | ⟨a', b', d'⟩
      · exact absurd a' (a c')
      · exact ⟨by rw [b, b'], by rw [d, d']⟩
theorem s_tell {Y : Ly} {v : Nat} {k p : Int32} {M : Mm} {Kn : Mm → Prop} (hk : yK Y v = 5) (h : Kn (sI M v (m1 (m1 (mI M v) 0 k) 1 p))) : f_X5_tell Y v k p M Kn := by
  refine ⟨hk, fun M2 e2 M3 e3 => ?_⟩
  subst e2
  rw [mI_sI_self, sI_sI] at e3
  subst e3
  exact h
def F45 : Nat → Nat → Prop := fun a b => a = 0 ∧ (b = 4 ∨ b = 5)
theorem c_exRec {Y : Ly} {q : Nat → Nat → Nat} {nL W nB n : Nat} {bt : Bt} {M : Mm} {Kn : Mm → Prop} (hC : SC Y q nL W nB) (hR : SR q nL (mR M)) (hL : Lie (mI M (q 0 1)) 0 bt) (h61 : 61 ≤ bt.length) (hl : bt.length ≤ 16384) (hn : cntB bt = nI n) (hn2 : n < 2 ^ 20) (hk0 : mI M (q 0 4) 0 = 0) (hk1 : mI M (q 0 4) 1 = -1)
    (h : ∀ kd pl M', ExR (ftB bt) (gtB bt) n 0 61 (bt.drop 61) 0 kd pl → Fr q F45 M M' → mI M' (q 0 4) 0 = kd → mI M' (q 0 4) 1 = pl → Kn M') : f_X5_examineRecords Y (q 0 4) (q 0 1) (nI bt.length) M Kn := by
  have k1 := sk_0_1 hC
  have n1 := sn_0_1 hC
  unfold f_X5_examineRecords
  refine s_countOf (a := 0) k1 (by omega) (by omega) (s_firstTimeOf (a := 0) k1 (by omega) (by omega) ?_)
  rw [cnt_fB hL h61, hn, show b_firstTimeOf (mI M (q 0 1)) 0 = ftB bt from beS_fB hL (by omega)]
  refine LOOP4_inv (fun x5 x6 x7 M8 => ∃ k a, k ≤ n ∧ x7 = nI k ∧ x6 = nI a ∧ 61 ≤ a ∧ a ≤ bt.length ∧ Fr q (fun a b => a = 0 ∧ b = 5) M M8 ∧ ∀ kd pl, ExR (ftB bt) (gtB bt) (n - k) k a (bt.drop a) x5 kd pl → ExR (ftB bt) (gtB bt) n 0 61 (bt.drop 61) 0 kd pl) (fun _ _ x7 _ => n - x7.toNatClampNeg) ?_ _ _ _ _ ⟨0, 61, by omega, rfl, rfl, by omega, h61, Fr_refl _ _ _, fun kd pl hE => hE⟩
  rintro x5 x6 x7 M8 again ⟨k, a, hk, rfl, rfl, ha1, ha2, F8, hE⟩ hag
  have i1 : mI M8 (q 0 1) = mI M (q 0 1) := Fr_I hC F8 (by omega)
  have i4 : mI M8 (q 0 4) = mI M (q 0 4) := Fr_I hC F8 (by omega)
  have F8' : Fr q F45 M M8 := Fr_mono F8 (fun a b hab => ⟨hab.1, Or.inr hab.2⟩)
  have tell : ∀ (M9 : Mm) (kd pl : Int32), Fr q F45 M M9 → ExR (ftB bt) (gtB bt) (n - k) k a (bt.drop a) x5 kd pl → f_X5_tell Y (q 0 4) kd pl M9 (fun M25 => Kn M25) := by
    intro M9 kd pl F9 hx
    refine s_tell (sk_0_4 hC) (h kd pl _ (hE kd pl hx) (Fr_trans F9 (Fr_sI _ _ _ _ ⟨rfl, Or.inl rfl⟩)) ?_ ?_)
    · rw [mI_sI_self]; simp [m1]
    · rw [mI_sI_self]; simp [m1]
  unfold L_X5_examineRecords_23 f_X5_examineRecords_151 f_X5_examineRecords_77
  rw [nI_cmp (by omega) (by omega)]
  refine ⟨fun c => ?_, fun c => ?_⟩
  · have hkn : n - k = 0 := by omega
    rw [hkn] at hE tell
    rw [nI_cmp (by omega) (by omega)]
    refine ⟨fun c2 => ?_, fun c2 => ⟨sk_0_4 hC, tell M8 4 _ F8' (Or.inl ⟨?_, rfl, rfl⟩)⟩⟩
    · have hnil : bt.drop a = [] := List.drop_eq_nil_of_le c2
      refine s_greatestTimeOf (a := 0) k1 (by omega) (by omega) ?_
      rw [i1, show b_greatestTimeOf (mI M (q 0 1)) 0 = gtB bt from beS_fB hL (by omega)]
      refine ⟨fun e => h 0 (-1) M8 (hE _ _ (Or.inr (Or.inr ⟨hnil, e, rfl, rfl⟩))) F8' (by rw [i4]; exact hk0) (by rw [i4]; exact hk1), fun e => ⟨sk_0_4 hC, tell M8 5 35 F8' (Or.inr (Or.inl ⟨hnil, e, rfl, rfl⟩))⟩⟩
    · intro hnil
      have := congrArg List.length hnil
      rw [List.length_drop] at this
      simp at this; omega
  · obtain ⟨m, hm⟩ : ∃ m, n - k = m + 1 := ⟨n - k - 1, by omega⟩
    rw [hm] at hE tell
    have hlen : (bt.drop a).length = bt.length - a := List.length_drop ..
    have hLa : Lie (mI M8 (q 0 1)) a (bt.drop a) := by
      rw [i1]
      have := Lie_drop hL a ha2
      rwa [Nat.zero_add] at this
    refine ⟨sk_0_4 hC, _, by rw [F8.2]; exact sr_0_4_2 hR, sk_0_5 hC, ?_⟩
    have e1 : nI bt.length = nI (a + (bt.drop a).length) := by rw [hlen]; congr 1; omega
    rw [e1]
    refine s_read (sk_0_5 hC) k1 (q_ne hC (by omega)) hLa (by rw [hlen]; omega) (by omega) ?_ ?_
    · intro c hc f g f2 f3 f4 f5 f6 g0 g1
      have Fv : Fr q (fun a b => a = 0 ∧ b = 5) M (vq M8 (q 0 5) f g) := Fr_trans F8 (Fr_trans (Fr_sI _ _ _ _ ⟨rfl, rfl⟩) (Fr_sJ _ _ _ _ ⟨rfl, rfl⟩))
      have Fv' : Fr q F45 M (vq M8 (q 0 5) f g) := Fr_mono Fv (fun a b hab => ⟨hab.1, Or.inr hab.2⟩)
      have hdim := RF_dims hc
      refine ⟨fun z => absurd z (by decide), fun _ => ⟨_, by rw [Fv.2]; exact sr_0_4_2 hR, sk_0_5 hC, ?_⟩⟩
      rw [vq_J, g1, nI_l (by omega)]
      refine ⟨fun z => tell _ 4 _ Fv' (Or.inr ⟨fun c' hc' => z (by rw [RF_fun hc hc'.1]; exact hc'.2.1), rfl, rfl⟩), fun z => ⟨_, by rw [Fv.2]; exact sr_0_4_2 hR, sk_0_5 hC, s_isWithin ?_⟩⟩
      rw [vq_J, g0]
      by_cases hok : 0 ≤ ftB bt + rT c ∧ ftB bt + rT c ≤ 1125899906842624
      · rw [if_pos hok]
        refine ⟨fun _ => ⟨_, by rw [Fv.2]; exact sr_0_4_2 hR, sk_0_5 hC, fun x37 e37 => ⟨_, by rw [Fv.2]; exact sr_0_4_2 hR, sk_0_5 hC, fun x40 e40 x41 e41 => ?_⟩⟩, fun z2 => absurd z2 (by decide)⟩
        rw [vq_J, g0] at e37
        rw [vq_v, f6] at e40
        rw [nI_1] at e41
        subst e37 e40 e41
        rw [hlen] at hdim
        refine hag _ _ _ _ ⟨k + 1, a + rC c, by omega, rfl, rfl, by omega, by omega, Fv, fun kd pl hx => hE kd pl (Or.inl ⟨c, ⟨hc, z, hok⟩, ?_⟩)⟩ ?_
        · rw [List.drop_drop]
          rwa [show n - (k + 1) = m from by omega] at hx
        · rw [nI_clamp (by omega), nI_clamp (by omega)]; omega
      · rw [if_neg hok]
        exact ⟨fun z2 => absurd rfl z2, fun _ => tell _ 4 _ Fv' (Or.inr ⟨fun c' hc' => hok (by rw [RF_fun hc hc'.1]; exact hc'.2.2), rfl, rfl⟩)⟩
    · intro hno f g
      have Fv : Fr q F45 M (vq M8 (q 0 5) f g) := Fr_trans F8' (Fr_trans (Fr_sI _ _ _ _ ⟨rfl, Or.inr rfl⟩) (Fr_sJ _ _ _ _ ⟨rfl, Or.inr rfl⟩))
      exact ⟨fun _ => tell _ 4 _ Fv (Or.inr ⟨fun c' hc' => hno c' hc'.1, rfl, rfl⟩), fun z => absurd rfl z⟩
