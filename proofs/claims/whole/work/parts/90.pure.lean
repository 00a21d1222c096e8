/-! what holds of all logs -/
def Ord : Nat → List Bt → Nat → Prop
  | s, [], e => s ≤ e
  | s, b :: bs, e => ∃ a la, baB b = lN a ∧ laB b = nI la ∧ s ≤ a ∧ la < 1000 ∧ Ord (a + la + 1) bs e
theorem Ord_le : ∀ {bs : List Bt} {s e : Nat}, Ord s bs e → s ≤ e
  | [], _, _, h => h
  | b :: bs, s, e, ⟨a, la, h1, h2, h3, h4, h5⟩ => by have := Ord_le h5; omega
theorem Ord_s {a la e : Nat} {b : Bt} (h1 : baB b = lN a) (h2 : laB b = nI la) (h3 : e ≤ a) (h4 : la < 1000) : ∀ (bs : List Bt) (s : Nat), Ord s bs e → Ord s (bs ++ [b]) (a + la + 1) := by
  intro bs
  induction bs with
  | nil => intro s h; exact ⟨a, la, h1, h2, Nat.le_trans h h3, h4, Nat.le_refl _⟩
  | cons c bs ih =>
    rintro s ⟨a', la', g1, g2, g3, g4, g5⟩
    exact ⟨a', la', g1, g2, g3, g4, ih _ g5⟩
def NtOK (n : Nat) (b : Bt) : Prop := ∃ g o v, g < 8 ∧ (o < 8 ∨ o = 255) ∧ (b.drop 61 = ntB (nI g) (nI o) v ∧ prB b = -1) ∧ (o = 255 → ∃ k, k ≤ n ∧ v = lN k)
def EndOK (nL n : Nat) (st : Nat → Int64) (L : LSt) : Prop := ∀ l, l ≤ nL → ∃ s e, st l = lN s ∧ lE L l = lN e ∧ e ≤ n ∧ Ord s (BS (lS L l)) e
def PwOK (L : LSt) : Prop := (lD L = 0 ∧ LfOK (lL L)) ∨ lD L = 1
def IL (nL W nB n : Nat) (st : Nat → Int64) (L : LSt) : Prop := Geo nL W nB (lS L) ∧ LogOK nL (lS L) ∧ EndOK nL n st L ∧ (∀ b, b ∈ BS (lS L nL) → NtOK n b) ∧ PwOK L
/-- a batch but for its BASE -/
def BatO (b : Bt) (c : Nat) : Prop := 61 ≤ b.length ∧ b.length ≤ 16384 ∧ Bys b ∧ b_sizeOf (fB b) 0 = nI b.length ∧ b_true (fB b) 0 b.length ∧ (prB b = -1 ∨ (0 ≤ prB b ∧ ∃ s, s < 2 ^ 31 ∧ sqB b = nI s)) ∧ 1 ≤ c ∧ c ≤ 1000 ∧ laB b = nI (c - 1) ∧ cntB b = nI c ∧ ∃ rs, RecOK b rs (c - 1)
theorem bs_based {en : Int64} {b : Bt} {i n : Nat} (hi : 8 ≤ i) : beS (fB (based en b)) i n = beS (fB b) i n := beS_congr (fun j _ => based_get en b (by omega))
theorem based_drop {en : Int64} {b : Bt} {i : Nat} (hi : 8 ≤ i) : (based en b).drop i = b.drop i := by
  unfold based
  rw [List.drop_append, pb_len, List.drop_eq_nil_of_le (by rw [pb_len]; exact hi), List.nil_append, List.drop_drop]
  congr 1; omega
theorem based_ok {b : Bt} {c e : Nat} (h : BatO b c) (he : e < 2 ^ 40) : BatOK (based (lN e) b) ∧ laB (based (lN e) b) = nI (c - 1) ∧ baB (based (lN e) b) = lN e := by
  obtain ⟨h1, h2, h3, h4, h5, h6, h7, h8, h9, h10, rs, h11⟩ := h
  have bl := based_len (lN e) h1
  have e1 : baB (based (lN e) b) = lN e := by
    unfold baB
    refine beS_pb8 ?_
    have := fB_Lie (based (lN e) b)
    unfold based at this ⊢
    exact (Lie_app.mp this).1
  have e2 : laB (based (lN e) b) = laB b := by unfold laB; rw [bs_based (by omega)]
  have e3 : prB (based (lN e) b) = prB b := by unfold prB; rw [bs_based (by omega)]
  have e4 : sqB (based (lN e) b) = sqB b := by unfold sqB; rw [bs_based (by omega)]
  have e5 : ftB (based (lN e) b) = ftB b := by unfold ftB; rw [bs_based (by omega)]
  have e6 : gtB (based (lN e) b) = gtB b := by unfold gtB; rw [bs_based (by omega)]
  refine ⟨⟨by omega, by omega, based_By _ h3, ?_, ?_, ⟨e, he, e1⟩, by rw [e3, e4]; exact h6, c - 1, rs, by omega, by rw [e2]; exact h9, ?_⟩, by rw [e2]; exact h9, e1⟩
  · unfold b_sizeOf at h4 ⊢
    rw [bs_based (by omega), bl]; exact h4
  · unfold b_true at h5 ⊢
    rw [bs_based (by omega), bl, h5, ckC_congr (g := fB (based (lN e) b)) (a' := 0 + 21) (fun j _ => (based_get _ b (by omega)).symm)]
  · unfold RecOK at h11 ⊢
    rw [based_drop (by omega), cnt_based, e5, e6]; exact h11
theorem BS_app (S T : List Sg) : BS (S ++ T) = BS S ++ BS T := by simp [BS]
theorem Add_BS {nL W nB l k x : Nat} {S : Nat → List Sg} {b : Bt} {T : List Sg} (h : AddR nL W nB S l b T k x) : BS T = BS (S l) ++ [b] := by
  rcases h with ⟨S0, bs, e, f, t, x0⟩ | ⟨n, s, f, t, x0⟩
  · rw [t, e]; simp [BS]
  · rw [t]; simp [BS]
theorem ApR_IL {nL W nB l n c : Nat} {st : Nat → Int64} {bt : Bt} {L L' : LSt} {r : Int32} (hI : IL nL W nB n st L) (hl : l ≤ nL) (hb : BatO bt c) (hbW : bt.length ≤ W * 1024) (hn : n < 2 ^ 39) (hnt : l = nL → NtOK (n + 1000) bt) (h : ApR nL W nB l bt L L' r) : IL nL W nB (n + 1000) st L' := by
  obtain ⟨hG, hOK, hE, hN, hP⟩ := hI
  have NtUp : ∀ b, NtOK n b → NtOK (n + 1000) b := by
    rintro b ⟨g, o, v, a1, a2, a3, a4⟩
    refine ⟨g, o, v, a1, a2, a3, fun z => ?_⟩
    obtain ⟨k, hk, e⟩ := a4 z
    exact ⟨k, by omega, e⟩
  have hE1 : EndOK nL (n + 1000) st L := fun l hl => by
    obtain ⟨s, e, a, b, c, d⟩ := hE l hl
    exact ⟨s, e, a, b, by omega, d⟩
  rcases h with ⟨_, rfl, _⟩ | ⟨T, k, x, l', ad, dn, full, hA, hS, hL', _⟩
  · exact ⟨hG, hOK, hE1, fun b hb => NtUp b (hN b hb), hP⟩
  · have hP' : ∀ E S, PwOK (E, S, l', lW L + nI ad, dn) := by
      intro E S
      rcases SpR_dn hS with z | ⟨z, _⟩
      · exact Or.inl ⟨z, (SpR_up hS z).2.2⟩
      · exact Or.inr z
    rcases hL' with ⟨hf, rfl⟩ | ⟨hf, rfl⟩
    · obtain ⟨s, e, a1, a2, a3, a4⟩ := hE l hl
      rw [a2] at hA
      have hbk := based_ok hb (show e < 2 ^ 40 by omega)
      have hbl := based_len (lN e) hb.1
      have hc : (cntB bt).toInt64 = lN c := by rw [hb.2.2.2.2.2.2.2.2.2.1, nI_l (by have := hb.2.2.2.2.2.2.2.1; omega)]
      have c1 := hb.2.2.2.2.2.2.1
      have c2 := hb.2.2.2.2.2.2.2.1
      have hBS := Add_BS hA
      refine ⟨Add_Geo hG hl (by rw [hbl]; exact hb.1) (by rw [hbl]; exact hbW) hA, ?_, ?_, ?_, hP' _ _⟩
      · intro l2 h2 b hb2
        have hb2' : b ∈ BS (m1 (lS L) l T l2) := hb2
        by_cases z : l2 = l
        · subst z
          rw [m1_at, hBS, List.mem_append, List.mem_singleton] at hb2'
          rcases hb2' with w | rfl
          · exact hOK l2 h2 b w
          · exact hbk.1
        · rw [m1_nat _ _ z] at hb2'; exact hOK l2 h2 b hb2'
      · intro l2 h2
        by_cases z : l2 = l
        · subst z
          refine ⟨s, e + c, a1, ?_, by omega, ?_⟩
          · show m1 (lE L) l2 (lE L l2 + (cntB bt).toInt64) l2 = _
            rw [m1_at, a2, hc, lN_add]
          · show Ord s (BS (m1 (lS L) l2 T l2)) (e + c)
            rw [m1_at, hBS]
            have := Ord_s hbk.2.2 hbk.2.1 (Nat.le_refl _) (by omega) _ _ a4
            rwa [show e + (c - 1) + 1 = e + c by omega] at this
        · obtain ⟨s', e', b1, b2, b3, b4⟩ := hE1 l2 h2
          refine ⟨s', e', b1, ?_, b3, ?_⟩
          · show m1 (lE L) l (lE L l + (cntB bt).toInt64) l2 = _
            rw [m1_nat _ _ z]; exact b2
          · show Ord s' (BS (m1 (lS L) l T l2)) e'
            rw [m1_nat _ _ z]; exact b4
      · intro b hb2
        have hb2' : b ∈ BS (m1 (lS L) l T nL) := hb2
        by_cases z : nL = l
        · subst z
          rw [m1_at, hBS, List.mem_append, List.mem_singleton] at hb2'
          rcases hb2' with w | rfl
          · exact NtUp b (hN b w)
          · obtain ⟨g, o, v, w1, w2, w3, w4⟩ := hnt rfl
            exact ⟨g, o, v, w1, w2, ⟨by rw [based_drop (by omega)]; exact w3.1, by unfold prB; rw [bs_based (by omega)]; exact w3.2⟩, w4⟩
        · rw [m1_nat _ _ z] at hb2'; exact NtUp b (hN b hb2')
    · exact ⟨hG, hOK, hE1, fun b hb => NtUp b (hN b hb), hP' _ _⟩
/-! what lies in a batch as it is written -/
theorem btF_21 {T : List Int32} {i n : Nat} : beS (fB (btF T)) (21 + i) n = beS (fB T) i n := by
  refine beS_congr (fun j _ => ?_)
  unfold fB btF
  have : ∀ x : List Int32, x.length = 21 → (x ++ T).getD (21 + i + j) 0 = T.getD (i + j) 0 := by
    intro x hx
    rw [List.getD_eq_getElem?_getD, List.getD_eq_getElem?_getD, List.getElem?_append_right (by omega), hx]
    congr 2; omega
  have e : pb 0 8 ++ (pb (lN (9 + T.length)) 4 ++ (pb 0 4 ++ ([2] ++ (pb (ckv T).toInt64 4 ++ T)))) = (pb 0 8 ++ (pb (lN (9 + T.length)) 4 ++ (pb 0 4 ++ ([2] ++ pb (ckv T).toInt64 4)))) ++ T := by simp [List.append_assoc]
  rw [e]
  exact this _ (by simp [pb_len])
theorem btF_ok {T : List Int32} (hl : T.length < 2 ^ 30) : b_sizeOf (fB (btF T)) 0 = nI (btF T).length ∧ b_true (fB (btF T)) 0 (btF T).length := by
  have hL := fB_Lie (btF T)
  rw [btF_len]
  unfold btF at hL
  simp only [Lie_app, pb_len, List.length_singleton, Nat.reduceAdd] at hL
  obtain ⟨h0, h8, h12, h16, h17, h21⟩ := hL
  refine ⟨?_, ?_⟩
  · unfold b_sizeOf
    have e := beS_pb4N h8 (by omega)
    unfold btF
    rw [Nat.zero_add, e, lN_i, show (12 : Int32) = nI 12 from rfl, nI_add]; congr 1; omega
  · unfold b_true
    have e := beS_pb4 h17
    have e2 : ckC (fB (btF T)) (0 + 21) (21 + T.length - 21) ^^^ (-1) = ckv T := by
      unfold ckv
      rw [show 21 + T.length - 21 = T.length by omega, ckC_congr (g := fB T) (a' := 0) (fun j hj => by
        rw [Nat.zero_add, Nat.zero_add]; exact Lie_fB h21 j hj)]
    rw [e2]
    unfold btF
    rw [Nat.zero_add, e]
    simp
theorem btF_fields (la ft gt pr ep sq cnt : Int64) (body : List Int32) : laB (btF (btH la ft gt pr ep sq cnt ++ body)) = la.toInt32 ∧ ftB (btF (btH la ft gt pr ep sq cnt ++ body)) = ft ∧ gtB (btF (btH la ft gt pr ep sq cnt ++ body)) = gt ∧ prB (btF (btH la ft gt pr ep sq cnt ++ body)) = pr ∧ cntB (btF (btH la ft gt pr ep sq cnt ++ body)) = cnt.toInt32 ∧ sqB (btF (btH la ft gt pr ep sq cnt ++ body)) = sq.toInt32 ∧ (btF (btH la ft gt pr ep sq cnt ++ body)).drop 61 = body := by
  have hL := fB_Lie (btH la ft gt pr ep sq cnt ++ body)
  obtain ⟨T, hT⟩ : ∃ T, T = btH la ft gt pr ep sq cnt ++ body := ⟨_, rfl⟩
  rw [← hT] at hL ⊢
  have hL2 : Lie (fB T) 0 (btH la ft gt pr ep sq cnt ++ body) := by rw [← hT]; exact hL
  unfold btH at hL2
  simp only [Lie_app, pb_len, List.length_append, Nat.reduceAdd] at hL2
  obtain ⟨⟨p0, p2, p6, p14, p22, p30, p32, p36⟩, p40⟩ := hL2
  refine ⟨?_, ?_, ?_, ?_, ?_, ?_, ?_⟩
  · unfold laB; rw [show (23 : Nat) = 21 + 2 from rfl, btF_21, beS_pb4 p2]; simp
  · unfold ftB; rw [show (27 : Nat) = 21 + 6 from rfl, btF_21]; exact beS_pb8 p6
  · unfold gtB; rw [show (35 : Nat) = 21 + 14 from rfl, btF_21]; exact beS_pb8 p14
  · unfold prB; rw [show (43 : Nat) = 21 + 22 from rfl, btF_21]; exact beS_pb8 p22
  · unfold cntB b_countOf; rw [show (0 + 57 : Nat) = 21 + 36 from rfl, btF_21, beS_pb4 p36]; simp
  · unfold sqB; rw [show (53 : Nat) = 21 + 32 from rfl, btF_21, beS_pb4 p32]; simp
  · unfold btF
    have e : pb 0 8 ++ (pb (lN (9 + T.length)) 4 ++ (pb 0 4 ++ ([2] ++ (pb (ckv T).toInt64 4 ++ T)))) = (pb 0 8 ++ (pb (lN (9 + T.length)) 4 ++ (pb 0 4 ++ ([2] ++ (pb (ckv T).toInt64 4 ++ btH la ft gt pr ep sq cnt))))) ++ body := by rw [hT]; simp [List.append_assoc]
    rw [e]
    exact List.drop_left' (by simp [pb_len, btH_len])
theorem Vx_1 {p : Int32} {z : Int64} (h1 : ¬ p < 0) (hz : vrz 0 0 p = z) : Vx [p] z := by
  refine ⟨by simp, fun y => ?_⟩
  show (if 10 ≤ 0 then none else if p < 0 then vr 1 (vrz 0 0 p) y else if (0 < 0 ∧ p = 0) ∨ (0 = 9 ∧ ¬ p = 1) then none else some (vrz 0 0 p, y)) = some (z, y)
  rw [if_neg (by decide), if_neg h1, if_neg (by omega), hz]
def ntC : Rc := (0, 0, 2, 5, 8, 8, 17)
theorem ntB_RF (g o : Int32) (v : Int64) : RF (ntB g o v) ntC := by
  refine ⟨[32], 32, [0], 0, [0], 0, [4], 4, [g.toInt8.toInt32, o.toInt8.toInt32], [16], 16, pb v 8, [], ?_, Vx_1 (by decide) (by decide), Vx_1 (by decide) (by decide), Vx_1 (by decide) (by decide), Vx_1 (by decide) (by decide), Vx_1 (by decide) (by decide), ?_, by decide, (show 2 = nn 4 by decide), by decide, ?_, ?_⟩
  · unfold ntB
    rw [vn1.1, vn1.2.1, vn1.2.2, pb_0 3 (by omega)]
    simp
  · rw [pb_len]; simp only [List.length_cons, List.length_nil]; decide
  · rw [pb_len]; decide
  · rw [pb_len]; simp only [List.length_cons, List.length_nil]; decide
theorem noteB_ok {g o : Int32} {tm : Nat} {v : Int64} (ht : tm ≤ 100000) : BatO (noteB g o tm v) 1 := by
  obtain ⟨f1, f2, f3, f4, f5, f6, f7⟩ := btF_fields 0 (lN tm) (lN tm) (-1) (-1) (-1) 1 (ntB g o v)
  have hl := noteB_len g o tm v
  have hk := btF_ok (T := btH 0 (lN tm) (lN tm) (-1) (-1) (-1) 1 ++ ntB g o v) (by rw [List.length_append, btH_len, ntB_len]; decide)
  refine ⟨by omega, by omega, noteB_By _ _ _ _, hk.1, hk.2, Or.inl f4, by decide, by decide, f1, f5, [ntC], ?_⟩
  have hRF := ntB_RF g o v
  refine ⟨?_, f5, by decide, ?_, ⟨0, rfl, by decide, by decide, trivial⟩⟩
  · show RS ((btF (btH 0 (lN tm) (lN tm) (-1) (-1) (-1) 1 ++ ntB g o v)).drop 61) [ntC]
    rw [f7]
    refine ⟨hRF, ?_⟩
    show (ntB g o v).drop 17 = []
    exact List.drop_eq_nil_of_le (by rw [ntB_len]; decide)
  · intro r hr
    rw [List.mem_singleton] at hr
    subst hr
    have e1 : ftB (noteB g o tm v) + rT ntC = lN tm := by
      show ftB (noteB g o tm v) + 0 = lN tm
      rw [Int64.add_zero]; exact f2
    rw [e1]
    have e2 : gtB (noteB g o tm v) = lN tm := f3
    rw [e2]
    refine ⟨⟨?_, ?_⟩, Int64.le_refl _⟩
    · rw [show (0 : Int64) = lN 0 from rfl, pk_lLE (by omega) (by omega)]; omega
    · rw [show (1125899906842624 : Int64) = lN 1125899906842624 from rfl, pk_lLE (by omega) (by omega)]; omega
theorem noteB_Nt {g o n tm : Nat} {v : Int64} (hg : g < 8) (ho : o < 8 ∨ o = 255) (hv : o = 255 → ∃ k, k ≤ n ∧ v = lN k) : NtOK n (noteB (nI g) (nI o) tm v) :=
  ⟨g, o, v, hg, ho, ⟨(btF_fields 0 (lN tm) (lN tm) (-1) (-1) (-1) 1 (ntB (nI g) (nI o) v)).2.2.2.2.2.2, (btF_fields 0 (lN tm) (lN tm) (-1) (-1) (-1) 1 (ntB (nI g) (nI o) v)).2.2.2.1⟩, hv⟩
theorem SetR_IL {nL W nB g n : Nat} {st : Nat → Int64} {G G' : GSt} {L L' : LSt} (hI : IL nL W nB n st L) (hGI : GI n G) (hg : g < 8) (hW : 1 ≤ W) (hn : n < 2 ^ 39) (h : SetR nL W nB g G L G' L') : IL nL W nB (n + 1000) st L' := by
  have up : IL nL W nB (n + 1000) st L := by
    obtain ⟨a, b, c, d, e⟩ := hI
    refine ⟨a, b, fun l hl => ?_, fun b hb => ?_, e⟩
    · obtain ⟨s, e, a1, a2, a3, a4⟩ := c l hl
      exact ⟨s, e, a1, a2, by omega, a4⟩
    · obtain ⟨g, o, v, b1, b2, b3, b4⟩ := d b hb
      refine ⟨g, o, v, b1, b2, b3, fun z => ?_⟩
      obtain ⟨k, hk, e⟩ := b4 z
      exact ⟨k, by omega, e⟩
  rcases h with ⟨_, _, e⟩ | ⟨_, _, ⟨_, _, e⟩ | ⟨c, r, hA, _⟩⟩
  · rw [e]; exact up
  · rw [e]; exact up
  · have hgn := (hGI.2.2 g hg).1
    refine ApR_IL hI (Nat.le_refl _) (noteB_ok hGI.1) (by rw [noteB_len]; omega) hn (fun _ => ?_) hA
    exact noteB_Nt (o := 255) hg (Or.inr rfl) (fun _ => ⟨gN G g + 1, by omega, rfl⟩)
