/-! the model judges records -/
def hJ (key : List Int32) : Int32 := (m8 key).foldl (fun h y => 31 * h + y) (nI key.length)
def hJx (x : Int32) : Int32 := (x ^^^ ((x.toUInt32 >>> ((12 : Int32).toUInt32 &&& Int32.toUInt32 31)).toInt32)) &&& 4095
def hJn (key : List Int32) : Nat := (hJx (hJ key)).toNatClampNeg
theorem hJn_ok (key : List Int32) : hJx (hJ key) = nI (hJn key) ∧ hJn key < 4096 := by
  obtain ⟨j, h1, h2⟩ := pk_andE (hJ key ^^^ (((hJ key).toUInt32 >>> ((12 : Int32).toUInt32 &&& Int32.toUInt32 31)).toInt32)) (m := 4095) 12 rfl
  have e : hJx (hJ key) = nI j := h2
  have h1 : j < 4096 := h1
  have e2 : hJn key = j := by unfold hJn; rw [e]; exact nI_clamp (by omega)
  rw [e2]; exact ⟨e, h1⟩
def Chn (ch : Nat → Int32) : Int32 → List Nat → Prop
  | v, [] => v = -1
  | v, c :: cs => v = nI c ∧ (∀ d, d ∈ cs → c < d) ∧ Chn ch (ch c) cs
theorem Chn_m1 {ch : Nat → Int32} {r : Nat} {w : Int32} : ∀ {cs : List Nat} {v : Int32}, Chn ch v cs → (∀ c, c ∈ cs → ¬ c = r) → Chn (m1 ch r w) v cs
  | [], v, h, _ => h
  | c :: cs, v, ⟨h1, h2, h3⟩, hn => ⟨h1, h2, by rw [m1_nat _ _ (hn c (List.mem_cons_self ..))]; exact Chn_m1 h3 (fun d hd => hn d (List.mem_cons_of_mem _ hd))⟩
abbrev KL : Type := List (Option (List Int32))
def JInv (K : KL) (N t : Nat) (bk ch : Nat → Int32) : Prop := ∃ C : Nat → List Nat, (∀ h, h < 4096 → Chn ch (bk h) (C h)) ∧ (∀ h, h < 4096 → ∀ c, c ∈ C h → t ≤ c ∧ c < N ∧ ∃ key, K[c]? = some (some key)) ∧ (∀ r key, t ≤ r → K[r]? = some (some key) → ∃ c, c ∈ C (hJn key) ∧ K[c]? = some (some key))
theorem JInv_0 {K : KL} {N : Nat} {bk ch : Nat → Int32} (hN : K.length = N) (h : ∀ j, j < 4096 → bk j = -1) : JInv K N N bk ch := by
  refine ⟨fun _ => [], fun j hj => h j hj, (fun _ _ c hc => by cases hc), fun r key hr hk => ?_⟩
  have := (List.getElem?_eq_some_iff.mp hk).1
  omega
theorem JInv_no {K : KL} {N r : Nat} {bk ch : Nat → Int32} (h : JInv K N (r + 1) bk ch) (hk : ∀ key, ¬ K[r]? = some (some key)) : JInv K N r bk ch := by
  obtain ⟨C, h1, h2, h3⟩ := h
  refine ⟨C, h1, fun j hj c hc => ?_, fun r' key hr hk' => ?_⟩
  · obtain ⟨a, b⟩ := h2 j hj c hc
    exact ⟨by omega, b⟩
  · by_cases e : r' = r
    · subst e; exact absurd hk' (hk key)
    · exact h3 r' key (by omega) hk'
theorem JInv_old {K : KL} {N r c : Nat} {key : List Int32} {bk ch : Nat → Int32} {C : Nat → List Nat} (h1 : ∀ h, h < 4096 → Chn ch (bk h) (C h)) (h2 : ∀ h, h < 4096 → ∀ c, c ∈ C h → r + 1 ≤ c ∧ c < N ∧ ∃ key, K[c]? = some (some key)) (h3 : ∀ r' key, r + 1 ≤ r' → K[r']? = some (some key) → ∃ c, c ∈ C (hJn key) ∧ K[c]? = some (some key)) (hk : K[r]? = some (some key)) (hc : c ∈ C (hJn key)) (hck : K[c]? = some (some key)) : JInv K N r bk ch := by
  refine ⟨C, h1, fun j hj c hc => ?_, fun r' key' hr hk' => ?_⟩
  · obtain ⟨a, b⟩ := h2 j hj c hc
    exact ⟨by omega, b⟩
  · by_cases e : r' = r
    · subst e
      rw [hk] at hk'; cases hk'
      exact ⟨c, hc, hck⟩
    · exact h3 r' key' (by omega) hk'
theorem JInv_new {K : KL} {N r : Nat} {key : List Int32} {bk ch : Nat → Int32} {C : Nat → List Nat} (hr : r < N) (h1 : ∀ h, h < 4096 → Chn ch (bk h) (C h)) (h2 : ∀ h, h < 4096 → ∀ c, c ∈ C h → r + 1 ≤ c ∧ c < N ∧ ∃ key, K[c]? = some (some key)) (h3 : ∀ r' key, r + 1 ≤ r' → K[r']? = some (some key) → ∃ c, c ∈ C (hJn key) ∧ K[c]? = some (some key)) (hk : K[r]? = some (some key)) : JInv K N r (m1 bk (hJn key) (nI r)) (m1 ch r (bk (hJn key))) := by
  have hh := (hJn_ok key).2
  refine ⟨m1 C (hJn key) (r :: C (hJn key)), fun j hj => ?_, fun j hj c hc => ?_, fun r' key' hr' hk' => ?_⟩
  · by_cases e : j = hJn key
    · subst e
      rw [m1_at, m1_at]
      refine ⟨rfl, fun d hd => (h2 _ hj d hd).1, ?_⟩
      rw [m1_at]
      exact Chn_m1 (h1 _ hj) (fun c hc z => by have := (h2 _ hj c hc).1; omega)
    · rw [m1_nat _ _ e, m1_nat _ _ e]
      exact Chn_m1 (h1 _ hj) (fun c hc z => by have := (h2 _ hj c hc).1; omega)
  · by_cases e : j = hJn key
    · subst e
      rw [m1_at] at hc
      rcases List.mem_cons.mp hc with rfl | hc
      · exact ⟨Nat.le_refl _, hr, key, hk⟩
      · obtain ⟨a, b⟩ := h2 _ hj c hc
        exact ⟨by omega, b⟩
    · rw [m1_nat _ _ e] at hc
      obtain ⟨a, b⟩ := h2 _ hj c hc
      exact ⟨by omega, b⟩
  · have fd : ∃ c, c ∈ (if hJn key' = hJn key then r :: C (hJn key) else C (hJn key')) ∧ K[c]? = some (some key') := by
      by_cases e : r' = r
      · subst e
        rw [hk] at hk'; cases hk'
        rw [if_pos rfl]
        exact ⟨r', List.mem_cons_self .., hk⟩
      · obtain ⟨c, a, b⟩ := h3 r' key' (by omega) hk'
        by_cases z : hJn key' = hJn key
        · rw [if_pos z]; rw [z] at a; exact ⟨c, List.mem_cons_of_mem _ a, b⟩
        · rw [if_neg z]; exact ⟨c, a, b⟩
    by_cases z : hJn key' = hJn key
    · rw [if_pos z] at fd; rw [z, m1_at]; exact fd
    · rw [if_neg z] at fd; rw [m1_nat _ _ z]; exact fd
def PJ : Nat → Nat → Nat → Prop := fun a b _ => a = 20 ∧ (b = 60 ∨ b = 61 ∨ b = 62)
theorem PJ_LogM {q : Nat → Nat → Nat} {nL W nB : Nat} {M M' : Mm} {st en : Nat → Int64} {S : Nat → List Sg} {B : List Bm} {hp ht : Nat} (h : LogM q nL W nB M st en S B hp ht) (e : EfH q PJ M M') : LogM q nL W nB M' st en S B hp ht := LogM_ef h e (fun a b j h => by unfold PLg at h; unfold PJ; omega)
theorem PJ_Rec {q : Nat → Nat → Nat} {M M' : Mm} {R : List ME} (h : RecA q M R) (e : EfH q PJ M M') : RecA q M' R := by
  unfold RecA
  rw [Ef_I e.1 (fun j => by unfold PJ; omega), Ef_I e.1 (fun j => by unfold PJ; omega), Ef_I e.1 (fun j => by unfold PJ; omega), Ef_I e.1 (fun j => by unfold PJ; omega), Ef_I e.1 (fun j => by unfold PJ; omega)]
  exact h
def jP (now : Int32) (K : KL) (Sl : List Sg) (l t r : Nat) (e : ME) : Prop := (t ≤ r ∧ (tmb now e ∨ dm K r) ∧ clo Sl l e.2.1) ∨ (r < t ∧ tmb now e)
set_option maxRecDepth 20000 in
theorem m_judge {Y : Ly} {q : Nat → Nat → Nat} {nL W nB : Nat} {hp ht : Nat} {S : Nat → List Sg} {B : List Bm} {st en : Nat → Int64} {M : Mm} (hC : SC Y q nL W nB) (hM : SM q (mR M)) (hG : Geo nL W nB S) (hLM : LogM q nL W nB M st en S B hp ht) (hOK : LogOK nL S) {l : Nat} {now : Int32} {Kn : Mm → Prop} (hl : l ≤ nL) (h53 : mI M (q 20 0) 53 = nI (Rm l B).length) (hrec : RecA q M (Rm l B)) (hgo : GoF (mI M (q 20 60)) (fun _ => tmb now) (Rm l B))
    (h : ∀ M', EfH q PJ M M' → GoF (mI M' (q 20 60)) (fun r e => (tmb now e ∨ dm ((Rm l B).map kyE) r) ∧ clo (S l) l e.2.1) (Rm l B) → Kn M') : f_X12_judge Y (q 20 0) (nI l) M Kn := by
  have hd := sdims hC
  have hct := Lnk_count hG hLM.2.2.2.2.2.2.2.2
  have hbd := Rm_bd hG hOK hLM.2.2.2.2.2.2.2.2 hl hd.2.2.2.2.2
  obtain ⟨R, eR⟩ : ∃ R, R = Rm l B := ⟨_, rfl⟩
  obtain ⟨K, eK⟩ : ∃ K : KL, K = R.map kyE := ⟨_, rfl⟩
  rw [← eR] at h53 hrec hgo h hbd
  rw [← eK] at h
  have hKl : K.length = R.length := by rw [eK, List.length_map]
  have hKe : ∀ (r : Nat) e, R[r]? = some e → K[r]? = some (kyE e) := fun r e he => by rw [eK, List.getElem?_map, he]; rfl
  have hKo : ∀ (r : Nat) o, K[r]? = some o → ∃ e, R[r]? = some e ∧ kyE e = o := fun r o ho => by
    rw [eK, List.getElem?_map] at ho
    cases e : R[r]? with
    | none => rw [e] at ho; cases ho
    | some x => rw [e] at ho; exact ⟨x, rfl, Option.some.inj ho⟩
  unfold f_X12_judge
  refine LOOP2_inv (fun x1 M2 => ∃ k, k ≤ 4096 ∧ x1 = nI k ∧ EfH q PJ M M2 ∧ (∀ j, j < k → mI M2 (q 20 61) j = -1) ∧ mI M2 (q 20 60) = mI M (q 20 60)) (fun x1 _ => 4096 - x1.toNatClampNeg) ?_ _ _ ⟨0, by omega, rfl, EfH_refl _ _ _, fun j hj => by omega, rfl⟩
  rintro x1 M2 again ⟨k, hk, rfl, E2, hb2, g2⟩ hag
  have hM2 := Ef_SM E2.1 hM
  unfold L_X12_judge_2
  rw [show (4096 : Int32) = nI 4096 from rfl, nI_cmp (by decide) (by omega)]
  refine ⟨fun c => ⟨sk_20_0 hC, fun x5 e5 => ?_⟩, fun c => ⟨sk_20_0 hC, _, sm_60 hM2, sk_20_61 hC, by rw [sn_20_61 hC]; exact vp_in_nI (by omega) (by decide), fun M94 e94 x95 e95 => ?_⟩⟩
  rotate_left
  · rw [nI_clamp (by omega)] at e94
    rw [nI_1] at e95
    subst e95
    refine hag _ _ ⟨k + 1, by omega, rfl, EfH_trans E2 (EfH_sI hC e94 ⟨rfl, by omega⟩), fun j hj => ?_, by rw [e94, I_ne hC _ _ (by omega)]; exact g2⟩ (by rw [nI_clamp (by omega), nI_clamp (by omega)]; omega)
    rw [e94, mI_sI_self]
    by_cases e : j = k
    · rw [e, m1_at]
    · rw [m1_nat _ _ e]; exact hb2 j (by omega)
  rw [Ef_i E2.1 (by unfold PJ; omega), h53] at e5
  subst e5
  refine LOOP2_inv (fun x6 M7 => ∃ t, t ≤ R.length ∧ x6 = nI t - 1 ∧ EfH q PJ M M7 ∧ GoF (mI M7 (q 20 60)) (jP now K (S l) l t) R ∧ JInv K R.length t (mI M7 (q 20 61)) (mI M7 (q 20 62))) (fun x6 _ => (x6 + 1).toNatClampNeg) ?_ _ _ ⟨R.length, Nat.le_refl _, rfl, E2, ?_, JInv_0 hKl (fun j hj => hb2 j (by omega))⟩
  rotate_left
  · rw [g2]
    intro r e he
    have hr := (List.getElem?_eq_some_iff.mp he).1
    rcases hgo r e he with ⟨a, b⟩ | ⟨a, b⟩
    · exact Or.inl ⟨a, Or.inr ⟨hr, b⟩⟩
    · refine Or.inr ⟨a, fun z => ?_⟩
      rcases z with z | z
      · omega
      · exact b z.2
  rintro x6 M7 again2 ⟨t, ht, rfl, E7, go7, ji7⟩ hag2
  have hM7 := Ef_SM E7.1 hM
  have hLM7 := PJ_LogM hLM E7
  have rec7 := PJ_Rec hrec E7
  unfold L_X12_judge_29
  cases t with
  | zero =>
    refine ⟨fun _ => h M7 E7 (fun r e he => ?_), fun c => absurd (show (nI 0 - 1 : Int32) < 0 from by decide) c⟩
    rcases go7 r e he with ⟨a, b⟩ | ⟨a, b⟩
    · rcases b with b | b
      · exact Or.inl ⟨a, b.2⟩
      · omega
    · exact Or.inr ⟨a, fun z => b (Or.inl ⟨Nat.zero_le _, z⟩)⟩
  | succ r =>
    rw [nI_pred]
    obtain ⟨e, he⟩ := lt_some (show r < R.length by omega)
    have he' : (Rm l B)[r]? = some e := by rw [← eR]; exact he
    have rec7' : RecA q M7 (Rm l B) := by rw [← eR]; exact rec7
    have cr : (nI r).toNatClampNeg = r := nI_clamp (by omega)
    have vr : ∀ b, yN Y b = 40000 → vp_in (nI r) (yN Y b) := fun b hb => by rw [hb]; exact vp_in_nI (by omega) (by decide)
    obtain ⟨i, x, k2, c2, ee, hi, hx, hxl, hc2, er2⟩ := Rm_at B.length (Nat.le_refl _) (by rw [List.take_of_length_le (Nat.le_refl _)]; exact he')
    obtain ⟨kn, ks⟩ := m_key hG hLM7 hOK rec7' he'
    -- the last step of a round
    have fin : ∀ M12 : Mm, EfH q PJ M M12 → JInv K R.length r (mI M12 (q 20 61)) (mI M12 (q 20 62)) → (∀ r' e', r' ≠ r → R[r']? = some e' → (mI M12 (q 20 60) r' = 1 ∧ jP now K (S l) l (r + 1) r' e') ∨ (mI M12 (q 20 60) r' = 0 ∧ ¬ jP now K (S l) l (r + 1) r' e')) → ((mI M12 (q 20 60) r = 1 ∧ (tmb now e ∨ dm K r)) ∨ (mI M12 (q 20 60) r = 0 ∧ ¬ (tmb now e ∨ dm K r))) → f_X12_judge_184 Y (q 20 0) (nI l) (nI r) again2 M12 := by
      intro M12 E12 ji12 go12 gr12
      have hM12 := Ef_SM E12.1 hM
      have hLM12 := PJ_LogM hLM E12
      unfold f_X12_judge_184 f_X12_judge_216
      refine ⟨_, sm_59 hM12, _, sm_59 hM12, sk_20_60 hC, vr _ (sn_20_60 hC), ?_⟩
      have stp : ∀ y : Int32, bz y → ((y = 1 ∧ (tmb now e ∨ dm K r) ∧ clo (S l) l e.2.1) ∨ (y = 0 ∧ ¬ ((tmb now e ∨ dm K r) ∧ clo (S l) l e.2.1))) → f_X12_judge_217 Y (nI r) again2 (q 20 60) y M12 := by
        intro y hy hv
        unfold f_X12_judge_217
        refine ⟨sk_20_60 hC, vr _ (sn_20_60 hC), hy, fun M22 e22 x23 e23 => ?_⟩
        rw [cr] at e22
        have ex : nI r + (-1) = nI r - 1 := by rw [Int32.sub_eq_add_neg]
        rw [ex] at e23
        subst e23
        have g22 : mI M22 (q 20 60) = m1 (mI M12 (q 20 60)) r y := by rw [e22, mI_sI_self]
        refine hag2 _ _ ⟨r, by omega, rfl, EfH_trans E12 (EfH_sI hC e22 ⟨rfl, by omega⟩), fun r' e' he2 => ?_, by rw [e22, I_ne hC _ _ (by omega), I_ne hC _ _ (by omega)]; exact ji12⟩ ?_
        · rw [g22]
          by_cases z : r' = r
          · subst z
            rw [he] at he2; cases he2
            rw [m1_at]
            rcases hv with ⟨a, b⟩ | ⟨a, b⟩
            · exact Or.inl ⟨a, Or.inl ⟨Nat.le_refl _, b⟩⟩
            · refine Or.inr ⟨a, fun z => ?_⟩
              rcases z with z | z
              · exact b z.2
              · omega
          · rw [m1_nat _ _ z]
            have : jP now K (S l) l r r' e' ↔ jP now K (S l) l (r + 1) r' e' := by
              unfold jP
              constructor
              · rintro (w | w)
                · exact Or.inl ⟨by omega, w.2⟩
                · exact Or.inr ⟨by omega, w.2⟩
              · rintro (w | w)
                · exact Or.inl ⟨by omega, w.2⟩
                · exact Or.inr ⟨by omega, w.2⟩
            rw [this]
            exact go12 r' e' z he2
        · rw [Int32.sub_add_cancel, Int32.sub_add_cancel, nI_clamp (by omega), nI_clamp (by omega)]; omega
      rw [cr]
      refine ⟨fun c => stp 0 (Or.inl rfl) (Or.inr ⟨rfl, fun z => ?_⟩), fun c => ?_⟩
      · rcases gr12 with ⟨a, b⟩ | ⟨a, b⟩
        · rw [a] at c; exact absurd c (by decide)
        · exact b z.1
      · have hA : tmb now e ∨ dm K r := by
          rcases gr12 with ⟨a, b⟩ | ⟨a, b⟩
          · exact b
          · exact absurd a c
        have f1 : mI M12 (q 20 55) r = nI i := by
          have := (PJ_Rec hrec E12 r e he).1
          rw [ee] at this; exact this
        refine ⟨_, sm_54 hM12, sk_20_55 hC, vr _ (sn_20_55 hC), ?_⟩
        rw [f1]
        have hxe : e.2.1 = x := by rw [ee]
        refine m_isClosed hC hM12 hG hLM12 hl hx (fun z => ⟨fun c3 => absurd c3 (by decide), fun _ => stp 1 (Or.inr rfl) (Or.inl ⟨rfl, hA, by rw [hxe]; exact z⟩)⟩) (fun z => ⟨fun _ => stp 0 (Or.inl rfl) (Or.inr ⟨rfl, fun w => z (by rw [← hxe]; exact w.2)⟩), fun c3 => absurd rfl c3⟩)
    have oth : ∀ r' e', r' ≠ r → R[r']? = some e' → (mI M7 (q 20 60) r' = 1 ∧ jP now K (S l) l (r + 1) r' e') ∨ (mI M7 (q 20 60) r' = 0 ∧ ¬ jP now K (S l) l (r + 1) r' e') := fun r' e' _ he2 => go7 r' e' he2
    have gr7 : (mI M7 (q 20 60) r = 1 ∧ tmb now e) ∨ (mI M7 (q 20 60) r = 0 ∧ ¬ tmb now e) := by
      rcases go7 r e he with ⟨a, b⟩ | ⟨a, b⟩
      · rcases b with b | b
        · omega
        · exact Or.inl ⟨a, b.2⟩
      · exact Or.inr ⟨a, fun z => b (Or.inr ⟨by omega, z⟩)⟩
    refine ⟨fun c => absurd c (nI_pos (by omega)), fun _ => ⟨_, sm_58 hM7, sk_20_59 hC, vr _ (sn_20_59 hC), ?_⟩⟩
    rw [cr]
    cases ek : kyE e with
    | none =>
      rw [kn ek]
      have hKr : ∀ key, ¬ K[r]? = some (some key) := fun key z => by rw [hKe r e he, ek] at z; cases z
      refine ⟨fun _ => fin M7 E7 (JInv_no ji7 hKr) oth ?_, fun c => absurd (by decide) c⟩
      have hnd : ¬ dm K r := fun ⟨key, z, _⟩ => hKr key z
      rcases gr7 with ⟨a, b⟩ | ⟨a, b⟩
      · exact Or.inl ⟨a, Or.inl b⟩
      · exact Or.inr ⟨a, fun z => z.elim b hnd⟩
    | some key =>
      have hkm := ks key ek
      obtain ⟨a, s1, s2, s3, s4, s5⟩ := ks key ek
      have hKr : K[r]? = some (some key) := by rw [hKe r e he, ek]
      rw [s1]
      refine ⟨fun c => absurd c (nI_pos (by omega)), fun _ => ⟨_, sm_58 hM7, sk_20_59 hC, vr _ (sn_20_59 hC), fun x36 e36 => ?_⟩⟩
      rw [s1] at e36
      subst e36
      obtain ⟨kh, nh⟩ := hp_k hC hLM7.2.2.2.2.1.1
      obtain ⟨hx1, hx2⟩ := hJn_ok key
      refine LOOP2_inv (fun x37 x38 => ∃ m, m ≤ key.length ∧ x38 = nI m ∧ x37 = ((m8 key).take m).foldl (fun h y => 31 * h + y) (nI key.length)) (fun _ x38 => key.length - x38.toNatClampNeg) ?_ _ _ ⟨0, by omega, rfl, rfl⟩
      rintro x37 x38 again3 ⟨m, hm, rfl, rfl⟩ hag3
      unfold L_X12_judge_52
      refine ⟨_, sm_58 hM7, sk_20_59 hC, vr _ (sn_20_59 hC), ?_⟩
      rw [cr, s1, nI_cmp (by omega) (by omega)]
      refine ⟨fun c x43 e43 => ?_, fun c => ?_⟩
      rotate_left
      · refine ⟨_, hLM7.2.2.2.2.1.2.1, _, sm_57 hM7, sk_20_58 hC, vr _ (sn_20_58 hC), kh, ?_⟩
        rw [s2, nI_add, nI_clamp (by omega)]
        refine ⟨by rw [nh]; exact vp_in_nI (by omega) (by decide), fun x88 e88 x89 e89 => ?_⟩
        rw [nI_1] at e89
        subst e88 e89
        refine hag3 _ _ ⟨m + 1, by omega, rfl, ?_⟩ (by rw [nI_clamp (by omega), nI_clamp (by omega)]; omega)
        have hml : m < (m8 key).length := by rw [m8_len]; omega
        rw [take_s (List.getElem?_eq_getElem hml), List.foldl_append]
        show _ = 31 * _ + (m8 key)[m]
        rw [Lie_get s3 hml, List.getD_eq_getElem?_getD, List.getElem?_eq_getElem hml]; rfl
      · have em : (m8 key).take m = m8 key := List.take_of_length_le (by rw [m8_len]; omega)
        rw [em] at e43
        have e43 : x43 = hJx (hJ key) := e43
        rw [hx1] at e43
        subst e43
        refine ⟨_, sm_60 hM7, sk_20_61 hC, by rw [sn_20_61 hC]; exact vp_in_nI hx2 (by decide), fun x47 e47 => ?_⟩
        rw [nI_clamp (by omega)] at e47
        obtain ⟨C, h1, h2, h3⟩ := ji7
        subst e47
        have setr : ∀ (y55 x48 : Int32), bz y55 → ((y55 = 1 ∧ (tmb now e ∨ dm K r)) ∨ (y55 = 0 ∧ ¬ (tmb now e ∨ dm K r))) → (0 ≤ x48 → JInv K R.length r (mI M7 (q 20 61)) (mI M7 (q 20 62))) → f_X12_judge_159 Y (q 20 0) (nI l) (nI r) again2 (nI (hJn key)) x48 M7 (q 20 60) y55 := by
          intro y55 x48 hy hv hj
          unfold f_X12_judge_159
          refine ⟨sk_20_60 hC, vr _ (sn_20_60 hC), hy, fun M59 e59 => ?_⟩
          rw [cr] at e59
          have g59 : mI M59 (q 20 60) = m1 (mI M7 (q 20 60)) r y55 := by rw [e59, mI_sI_self]
          have E59 : EfH q PJ M M59 := EfH_trans E7 (EfH_sI hC e59 ⟨rfl, by omega⟩)
          have o59 : ∀ b, b ≠ 60 → mI M59 (q 20 b) = mI M7 (q 20 b) := fun b hb => by rw [e59]; exact I_ne hC _ _ (by omega)
          have hM59 := Ef_SM E59.1 hM
          refine ⟨fun c4 => fin M59 E59 (by rw [o59 61 (by decide), o59 62 (by decide)]; exact hj c4) (fun r' e' hn he2 => by rw [g59, m1_nat _ _ hn]; exact oth r' e' hn he2) (by rw [g59, m1_at]; exact hv), fun c4 => ?_⟩
          refine ⟨_, sm_61 hM59, _, sm_60 hM59, sk_20_61 hC, by rw [sn_20_61 hC]; exact vp_in_nI hx2 (by decide), sk_20_62 hC, vr _ (sn_20_62 hC), fun M67 e67 => ?_⟩
          rw [cr, nI_clamp (by omega), o59 61 (by decide), o59 62 (by decide)] at e67
          refine ⟨q 20 61, by rw [e67]; exact sm_60 hM59, sk_20_61 hC, by rw [sn_20_61 hC]; exact vp_in_nI hx2 (by decide), fun M71 e71 => ?_⟩
          rw [nI_clamp (by omega)] at e71
          have b67 : mI M67 (q 20 61) = mI M7 (q 20 61) := by rw [e67, I_ne hC _ _ (by omega)]; exact o59 61 (by decide)
          rw [b67] at e71
          have g71 : mI M71 (q 20 60) = m1 (mI M7 (q 20 60)) r y55 := by rw [e71, I_ne hC _ _ (by omega), e67, I_ne hC _ _ (by omega)]; exact g59
          refine fin M71 (EfH_trans E59 (EfH_trans (EfH_sIr hC e67 (fun j => ⟨rfl, by omega⟩)) (EfH_sIr hC e71 (fun j => ⟨rfl, by omega⟩)))) ?_ (fun r' e' hn he2 => by rw [g71, m1_nat _ _ hn]; exact oth r' e' hn he2) (by rw [g71, m1_at]; exact hv)
          rw [e71, mI_sI_self, I_ne hC _ _ (by omega), e67, mI_sI_self]
          exact JInv_new (by omega) h1 h2 h3 hKr
        have put : ∀ x48 : Int32, (0 ≤ x48 ∧ dm K r ∧ JInv K R.length r (mI M7 (q 20 61)) (mI M7 (q 20 62))) ∨ (x48 < 0 ∧ ¬ dm K r) → f_X12_judge_135 Y (q 20 0) (nI l) (nI r) again2 (nI (hJn key)) x48 M7 := by
          intro x48 hv
          unfold f_X12_judge_135 f_X12_judge_154
          refine ⟨_, sm_59 hM7, _, sm_59 hM7, sk_20_60 hC, vr _ (sn_20_60 hC), ?_⟩
          rw [cr]
          have hj : 0 ≤ x48 → JInv K R.length r (mI M7 (q 20 61)) (mI M7 (q 20 62)) := fun z => by
            rcases hv with w | w
            · exact w.2.2
            · exact absurd w.1 (Int32.not_lt.mpr z)
          refine ⟨fun c4 => setr 1 x48 (Or.inr rfl) (Or.inl ⟨rfl, Or.inl ?_⟩) hj, fun c4 => ⟨fun c5 => setr 0 x48 (Or.inl rfl) (Or.inr ⟨rfl, fun z => ?_⟩) hj, fun c5 => setr 1 x48 (Or.inr rfl) (Or.inl ⟨rfl, Or.inr ?_⟩) hj⟩⟩
          · rcases gr7 with ⟨a, b⟩ | ⟨a, b⟩
            · exact b
            · exact absurd a c4
          · rcases z with z | z
            · rcases gr7 with ⟨a, b⟩ | ⟨a, b⟩
              · rw [a] at c4; exact absurd c4 (by decide)
              · exact b z
            · rcases hv with w | w
              · exact absurd c5 (Int32.not_lt.mpr w.1)
              · exact w.2 z
          · rcases hv with w | w
            · exact w.2.1
            · exact absurd w.1 c5
        refine LOOP2_inv (fun x48 M49 => M49 = M7 ∧ ∃ D, Chn (mI M7 (q 20 62)) x48 D ∧ (∀ c, c ∈ D → c ∈ C (hJn key)) ∧ (∀ c, c ∈ C (hJn key) → ¬ c ∈ D → ¬ K[c]? = some (some key))) (fun x48 _ => if x48 < 0 then 0 else R.length + 1 - x48.toNatClampNeg) ?_ _ _ ⟨rfl, C (hJn key), h1 _ hx2, fun c hc => hc, fun c hc hn => absurd hc hn⟩
        rintro x48 M49 again4 ⟨rfl, D, hD, hDC, hDn⟩ hag4
        unfold L_X12_judge_108
        cases D with
        | nil =>
          have e48 : x48 = -1 := hD
          subst e48
          refine ⟨fun _ => put (-1) (Or.inr ⟨by decide, fun ⟨key2, z1, r', z2, z3⟩ => ?_⟩), fun c4 => absurd (by decide) c4⟩
          rw [hKr] at z1; cases z1
          obtain ⟨c5, w1, w2⟩ := h3 r' key (by omega) z3
          exact hDn c5 w1 (by simp) w2
        | cons c5 cs =>
          obtain ⟨e48, hs, hC2⟩ := hD
          have hc5 := hDC c5 (List.mem_cons_self ..)
          obtain ⟨u1, u2, key5, u3⟩ := h2 _ hx2 c5 hc5
          subst e48
          refine ⟨fun c4 => absurd c4 (nI_pos (by omega)), fun _ => ?_⟩
          obtain ⟨e5, he5, ek5⟩ := hKo c5 _ u3
          have hkm5 := (m_key hG hLM7 hOK rec7' (by rw [← eR]; exact he5)).2 key5 ek5
          refine m_same hC hM7 hLM7.2.2.2.2.1 (by omega) (by omega) hkm hkm5 (fun eq => ⟨fun _ => put (nI c5) (Or.inl ⟨nI_ge0 (by omega), ⟨key, hKr, c5, by omega, by rw [u3, eq]⟩, JInv_old h1 h2 h3 hKr hc5 (by rw [u3, eq])⟩), fun c4 => absurd c4 (by decide)⟩) (fun ne => ⟨fun c4 => absurd rfl c4, fun _ => ?_⟩)
          refine ⟨_, sm_61 hM7, sk_20_62 hC, by rw [sn_20_62 hC]; exact vp_in_nI (by omega) (by decide), fun x81 e81 => ?_⟩
          rw [nI_clamp (by omega)] at e81
          subst e81
          refine hag4 _ _ ⟨rfl, cs, hC2, fun c hc => hDC c (List.mem_cons_of_mem _ hc), fun c hc hn => ?_⟩ ?_
          · by_cases z : c = c5
            · subst z
              rw [u3]
              intro w
              exact ne (by cases w; rfl)
            · exact hDn c hc (fun w => by rcases List.mem_cons.mp w with w | w; exact z w; exact hn w)
          · rw [if_neg (nI_pos (by omega)), nI_clamp (by omega)]
            cases cs with
            | nil =>
              have e : mI M49 (q 20 62) c5 = -1 := hC2
              rw [e, if_pos (by decide)]; omega
            | cons d ds =>
              have e : mI M49 (q 20 62) c5 = nI d := hC2.1
              have hd5 := hs d (List.mem_cons_self ..)
              have hdN := (h2 _ hx2 d (hDC d (List.mem_cons_of_mem _ (List.mem_cons_self ..)))).2.1
              rw [e, if_neg (nI_pos (by omega)), nI_clamp (by omega)]; omega
