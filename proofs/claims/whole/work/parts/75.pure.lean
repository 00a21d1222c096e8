/-! the first bytes of a row as a number; the checksum that the model tells -/
theorem m_begin {Y : Ly} {row a n : Nat} {v : Int64} {M : Mm} {Kn : Int64 → Mm → Prop} (hk : yK Y row = 101) (hv : (v = lN n ∧ n < 2 ^ 31) ∨ (v = -1 ∧ n = 0)) (hn : a + min n 8 ≤ yN Y row) (hb : yN Y row < 2 ^ 31) (h : Kn (moN (mI M row) a 0 (min n 8)) M) : f_X12_begin Y row (nI a) v M Kn := by
  unfold f_X12_begin
  refine LOOP2_inv (fun x i => ∃ k : Nat, k ≤ min n 8 ∧ i = nI k ∧ x = moN (mI M row) a 0 k) (fun _ i => 8 - i.toNatClampNeg) ?_ 0 0 ⟨0, Nat.zero_le _, rfl, rfl⟩
  rintro x i again ⟨k, hkn, rfl, rfl⟩ hag
  unfold L_X12_begin_6 f_X12_begin_42
  have hle : v ≤ (nI k).toInt64 ↔ n ≤ k := by
    rw [nI_l (by omega)]
    rcases hv with ⟨rfl, h1⟩ | ⟨rfl, rfl⟩
    · exact pk_lLE (by omega) (by omega)
    · refine ⟨fun _ => Nat.zero_le _, fun _ => ?_⟩
      rw [Int64.le_iff_toInt_le, pk_lT (by omega)]
      show (-1 : Int) ≤ _
      omega
  rw [hle, show (8 : Int32) = nI 8 from rfl, nI_cmp (by omega) (by omega)]
  refine ⟨fun c => ?_, fun c => ⟨fun c2 => ?_, fun c2 => ⟨hk, ?_, fun x7 e7 x8 e8 => ?_⟩⟩⟩
  · rw [show min n 8 = k by omega] at h; exact h
  · rw [show min n 8 = k by omega] at h; exact h
  · rw [nI_add]; exact vp_in_nI (by omega) hb
  · rw [nI_add, nI_clamp (by omega)] at e7
    rw [nI_1] at e8
    subst e7 e8
    refine hag _ _ ⟨k + 1, by omega, rfl, rfl⟩ ?_
    rw [nI_clamp (by omega), nI_clamp (by omega)]
    omega
theorem uZ_beS (f : Nat → Int32) (a : Nat) : (beU f a 4).toBitVec = uZ ((beS f a 4).toInt32) := by
  unfold beS uZ
  rw [Int64.toBitVec_toInt32, shS _ 4 (by simp)]
  have hx : ∀ i, 32 ≤ i → i < 64 → (beU f a 4).toBitVec.getLsbD i = false := by
    intro i h1 h2
    rw [beU_bU, bU_bit (s := false) (fun i _ => by simp) (hB_hi f a) 4 i h2, if_neg (by omega)]
  generalize (beU f a 4).toBitVec = x at hx ⊢
  apply BitVec.eq_of_getLsbD_eq
  intro i hi
  rw [BitVec.getLsbD_setWidth]
  by_cases g : i < 32
  · rw [BitVec.signExtend_eq_setWidth_of_le _ (by decide), BitVec.getLsbD_setWidth, BitVec.getLsbD_sshiftRight, if_pos (by omega), BitVec.getLsbD_shiftLeft]
    simp [hi, g, show ¬ 64 ≤ i by omega, show ¬ 32 + i < 32 by omega, show 32 + i < 64 by omega]
  · rw [hx i (by omega) hi, BitVec.getLsbD_of_ge _ i (by omega)]; simp
theorem uZ_inj {a b : Int32} : uZ a = uZ b ↔ a = b := by
  refine ⟨fun h => ?_, fun h => by rw [h]⟩
  unfold uZ at h
  apply Int32.toBitVec_inj.mp
  have := congrArg BitVec.toNat h
  rw [BitVec.toNat_setWidth, BitVec.toNat_setWidth] at this
  have h1 := a.toBitVec.isLt
  have h2 := b.toBitVec.isLt
  apply BitVec.eq_of_toNat_eq
  omega
theorem bm_true {g : Nat → Int32} {bt : Bt} (h : Lie g 0 (m8 bt)) (h61 : 61 ≤ bt.length) : moN g 17 0 4 = smC g 21 (bt.length - 21) ^^^ 4294967295 ↔ b_true (fB bt) 0 bt.length := by
  have hg : ∀ j, j < bt.length → g j = fB bt j &&& 255 := fun j hj => by have := m8_fB h hj; rwa [Nat.zero_add] at this
  unfold b_true
  rw [← Int64.toBitVec_inj, moN_bU (f := fB bt) (a := 17) _ 4 (fun j hj => hg _ (by omega)), Int64.toBitVec_xor, smC_ckC (f := fB bt) (a := 21) _ (fun j hj => hg _ (by omega))]
  rw [show bU (0 : Int64).toBitVec (hB (fB bt) 17) 4 = (beU (fB bt) 17 4).toBitVec from (beU_bU _ _ _).symm, uZ_beS, show ((4294967295 : Int64).toBitVec) = uZ (-1) from by decide, ← uZ_xor, uZ_inj, Nat.zero_add, Nat.zero_add]
theorem b01y (c : Prop) [Decidable c] (G : Int32 → Prop) (h : ∀ y, y = (if decide c = true then 1 else 0) → G y) : (¬ c → G 0) ∧ (c → G 1) := by
  refine ⟨fun z => h 0 (by simp [z]), fun z => h 1 (by simp [z])⟩
theorem st_wf : ∀ (xs : List (Bool × Int32)) (p : Int32), (∀ x, x ∈ xs → ¬ x.2 = -1) → (¬ p = -1 → xs.foldl (fun p x => stp p x.1 x.2) p = p) ∧ (p = -1 → xs.foldl (fun p x => stp p x.1 x.2) p = wfF xs)
  | [], p, _ => ⟨fun _ => rfl, fun h => h⟩
  | (c, w) :: xs, p, hw => by
    have hw' : ∀ x, x ∈ xs → ¬ x.2 = -1 := fun x hx => hw x (List.mem_cons_of_mem _ hx)
    have hw0 : ¬ w = -1 := hw (c, w) List.mem_cons_self
    refine ⟨fun h => ?_, fun h => ?_⟩
    · simp only [List.foldl_cons, stp]
      rw [if_neg h]; exact (st_wf xs p hw').1 h
    · subst h
      simp only [List.foldl_cons, stp, if_true, wfF]
      cases c with
      | true => simp only [if_true]; exact (st_wf xs (-1) hw').2 rfl
      | false => simp only [Bool.false_eq_true, if_false]; exact (st_wf xs w hw').1 hw0
theorem hdC_w (b : Bt) : ∀ x, x ∈ hdC b → ¬ x.2 = -1 := by
  intro x hx
  simp only [hdC, List.mem_cons, List.not_mem_nil, or_false] at hx
  rcases hx with rfl | rfl | rfl | rfl | rfl | rfl | rfl | rfl | rfl | rfl | rfl <;> (dsimp only; decide)
theorem Scr_fld {q : Nat → Nat → Nat} (M : Mm) (p : Int32) : Scr q M (fld q M p) := by
  unfold fld
  split
  · exact Scr_refl _ _
  · have := Scr_trans (Scr_sI (q := q) M (j := 44) 2 (by simp)) (Scr_sI (q := q) _ (j := 45) p (by simp))
    rw [mI_sI_self, sI_sI] at this
    exact this
theorem By_2e {p : Int32} (h : By p) : (p &&& 255) = 2 ↔ p = 2 := By_all (fun p => (p &&& 255) = 2 ↔ p = 2) (by decide +kernel) h
theorem m_hnum {Y : Ly} {q : Nat → Nat → Nat} {nL W nB : Nat} {tp : Bt} {M : Mm} (hC : SC Y q nL W nB) (hM : SM q (mR M)) (hL : Lie (mI M (q 20 11)) 0 (m8 tp)) (h61 : 61 ≤ tp.length) (p : Int32) (o n : Nat) {K : Int64 → Mm → Prop} (hn : n = 2 ∨ n = 4 ∨ n = 8) (ho : o + n ≤ 61) (hK : K (beS (fB tp) o n) (fld q M p)) : ∃ b, mR (fld q M p) (q 20 0) 10 = some b ∧ f_X12_number Y b (nI o) (nI n) (fld q M p) K := by
  refine ⟨_, by rw [fld_R]; exact sm_10 hM, m_tnum hC (bt := tp) ?_ h61 hn ho hK⟩
  rw [fld_n hC _ _ (by decide)]; exact hL
theorem rngy (r lo hi : Int64) (G : Int32 → Prop) (hG : ∀ y, y = (if decide (lo ≤ r ∧ r ≤ hi) = true then 1 else 0) → G y) : (r < lo → G 0) ∧ (¬ r < lo → (hi < r → G 0) ∧ (¬ hi < r → G 1)) := by
  refine ⟨fun c => hG 0 (by rw [if_neg]; rw [decide_eq_true_eq]; exact fun z => Int64.not_le.mpr c z.1), fun c => ⟨fun c2 => hG 0 (by rw [if_neg]; rw [decide_eq_true_eq]; exact fun z => Int64.not_le.mpr c2 z.2), fun c2 => hG 1 (by rw [if_pos]; rw [decide_eq_true_eq]; exact ⟨Int64.not_lt.mp c, Int64.not_lt.mp c2⟩)⟩⟩
theorem okny (p r : Int64) (G : Int32 → Prop) (hG : ∀ y, y = (if okN p r = true then 1 else 0) → G y) : (¬ p = -1 → (r < 0 → G 0) ∧ (¬ r < 0 → G 1)) ∧ (p = -1 → (¬ r = -1 → G 0) ∧ (r = -1 → G 1)) := by
  unfold okN at hG
  refine ⟨fun c => ?_, fun c => ?_⟩
  · rw [if_neg c] at hG
    exact ⟨fun z => hG 0 (by simp [z]), fun z => hG 1 (by simp [z])⟩
  · rw [if_pos c] at hG
    exact ⟨fun z => hG 0 (by simp [z]), fun z => hG 1 (by simp [z])⟩
def FinK (q : Nat → Nat → Nat) (M : Mm) (tp : Bt) (Kn : Mm → Prop) (p : Int32) : Prop := (¬ p = -1 → Kn (fld q M p)) ∧ (p = -1 → (¬ b_true (fB tp) 0 tp.length → Kn (sI M (q 20 0) (m1 (m1 (mI M (q 20 0)) 44 3) 45 17))) ∧ (b_true (fB tp) 0 tp.length → Kn M))
theorem m_rh405 {Y : Ly} {q : Nat → Nat → Nat} {nL W nB : Nat} {tp : Bt} {M : Mm} {Kn : Mm → Prop} (hC : SC Y q nL W nB) (hM : SM q (mR M)) (hL : Lie (mI M (q 20 11)) 0 (m8 tp)) (h61 : 61 ≤ tp.length) (hl : tp.length ≤ 16384) (h11 : mI M (q 20 0) 11 = nI tp.length) (h44 : mI M (q 20 0) 44 = 0) {p y : Int32} (hy : y = if decide (1 ≤ beS (fB tp) 57 4 ∧ beS (fB tp) 57 4 ≤ 1000) = true then 1 else 0) (h : FinK q M tp Kn (stp p (decide (1 ≤ beS (fB tp) 57 4 ∧ beS (fB tp) 57 4 ≤ 1000)) 57)) : f_X12_readHead_405 Y (q 20 0) Kn (fld q M p) y := by
  unfold f_X12_readHead_405 f_X12_readHead_457
  refine m_field hC h44 hy (by decide) ?_
  generalize stp p _ 57 = w at h ⊢
  rw [fld_44 h44]
  refine ⟨h.1, fun e => ?_⟩
  subst e
  have eM : fld q M (-1) = M := if_pos rfl
  rw [eM]
  have hn := sn_20_11 hC
  refine ⟨_, sm_10 hM, m_begin (a := 17) (n := 4) (sk_20_11 hC) (Or.inl ⟨rfl, by decide⟩) (by omega) (by omega) ?_⟩
  refine ⟨_, sm_10 hM, ?_⟩
  rw [h11, show nI tp.length = nI (21 + (tp.length - 21)) by congr 1; omega]
  refine s_sum (a := 21) (sk_20_11 hC) (by omega) (by omega) ?_
  rw [show min 4 8 = 4 from rfl, bm_true hL h61]
  refine ⟨fun c => (h.2 rfl).2 c, fun c M64 e64 M65 e65 => ?_⟩
  rw [e64, mI_sI_self, sI_sI] at e65
  rw [e65]
  exact (h.2 rfl).1 c
theorem m_rh321 {Y : Ly} {q : Nat → Nat → Nat} {nL W nB : Nat} {tp : Bt} {M : Mm} {Kn : Mm → Prop} (hC : SC Y q nL W nB) (hM : SM q (mR M)) (hL : Lie (mI M (q 20 11)) 0 (m8 tp)) (h61 : 61 ≤ tp.length) (hl : tp.length ≤ 16384) (h11 : mI M (q 20 0) 11 = nI tp.length) (h44 : mI M (q 20 0) 44 = 0) {p y : Int32} (hy : y = if okN (prB tp) (beS (fB tp) 51 2) = true then 1 else 0) (h : FinK q M tp Kn (stp (stp (stp p (okN (prB tp) (beS (fB tp) 51 2)) 51) (okN (prB tp) (beS (fB tp) 53 4)) 53) (decide (1 ≤ beS (fB tp) 57 4 ∧ beS (fB tp) 57 4 ≤ 1000)) 57)) : f_X12_readHead_321 Y (q 20 0) Kn (beS (fB tp) 57 4) (prB tp) y (fld q M p) := by
  unfold f_X12_readHead_321
  refine m_field hC h44 hy (by decide) ?_
  generalize stp p _ 51 = p at h ⊢
  have k := okny (prB tp) (beS (fB tp) 53 4) (fun y => f_X12_readHead_380 Y (q 20 0) Kn (beS (fB tp) 57 4) y (fld q M p)) (fun y hy => by
    unfold f_X12_readHead_380
    refine m_field hC h44 hy (by decide) ?_
    generalize stp p _ 53 = p at h ⊢
    exact rngy (beS (fB tp) 57 4) 1 1000 (fun y => f_X12_readHead_405 Y (q 20 0) Kn (fld q M p) y) (fun y hy => m_rh405 hC hM hL h61 hl h11 h44 hy h))
  exact ⟨fun c => m_hnum hC hM hL h61 _ 53 4 (by simp) (by omega) (k.1 c), fun c => m_hnum hC hM hL h61 _ 53 4 (by simp) (by omega) (k.2 c)⟩
theorem m_rh190 {Y : Ly} {q : Nat → Nat → Nat} {nL W nB : Nat} {tp : Bt} {M : Mm} {Kn : Mm → Prop} (hC : SC Y q nL W nB) (hM : SM q (mR M)) (hL : Lie (mI M (q 20 11)) 0 (m8 tp)) (h61 : 61 ≤ tp.length) (hl : tp.length ≤ 16384) (h11 : mI M (q 20 0) 11 = nI tp.length) (h44 : mI M (q 20 0) 44 = 0) {p y : Int32} (hy : y = if decide (0 ≤ ftB tp ∧ ftB tp ≤ 1125899906842624) = true then 1 else 0) (h : FinK q M tp Kn (stp (stp (stp (stp (stp (stp p (decide (0 ≤ ftB tp ∧ ftB tp ≤ 1125899906842624)) 27) (decide (0 ≤ gtB tp ∧ gtB tp ≤ 1125899906842624)) 35) (decide (-1 ≤ prB tp ∧ prB tp ≤ 1125899906842624)) 43) (okN (prB tp) (beS (fB tp) 51 2)) 51) (okN (prB tp) (beS (fB tp) 53 4)) 53) (decide (1 ≤ beS (fB tp) 57 4 ∧ beS (fB tp) 57 4 ≤ 1000)) 57)) : f_X12_readHead_190 Y (q 20 0) Kn (beS (fB tp) 57 4) (prB tp) y (fld q M p) := by
  unfold f_X12_readHead_190
  refine m_field hC h44 hy (by decide) ?_
  generalize stp p _ 27 = p at h ⊢
  have k := rngy (gtB tp) 0 1125899906842624 (fun y => f_X12_readHead_235 Y (q 20 0) Kn (beS (fB tp) 57 4) (prB tp) y (fld q M p)) (fun y hy => by
    unfold f_X12_readHead_235
    refine m_field hC h44 hy (by decide) ?_
    generalize stp p _ 35 = p at h ⊢
    refine rngy (prB tp) (-1) 1125899906842624 (fun y => f_X12_readHead_262 Y (q 20 0) Kn (beS (fB tp) 57 4) (prB tp) (fld q M p) y) (fun y hy => ?_)
    unfold f_X12_readHead_262
    refine m_field hC h44 hy (by decide) ?_
    generalize stp p _ 43 = p at h ⊢
    have k := okny (prB tp) (beS (fB tp) 51 2) (fun y => f_X12_readHead_321 Y (q 20 0) Kn (beS (fB tp) 57 4) (prB tp) y (fld q M p)) (fun y hy => m_rh321 hC hM hL h61 hl h11 h44 hy h)
    exact ⟨fun c => m_hnum hC hM hL h61 _ 51 2 (by simp) (by omega) (k.1 c), fun c => m_hnum hC hM hL h61 _ 51 2 (by simp) (by omega) (k.2 c)⟩)
  exact m_hnum hC hM hL h61 _ 35 8 (by simp) (by omega) ⟨k.1, fun c => m_hnum hC hM hL h61 _ 35 8 (by simp) (by omega) (k.2 c)⟩
theorem m_rh {Y : Ly} {q : Nat → Nat → Nat} {nL W nB : Nat} {tp : Bt} {M : Mm} {Kn : Mm → Prop} (hC : SC Y q nL W nB) (hM : SM q (mR M)) (hL : Lie (mI M (q 20 11)) 0 (m8 tp)) (h61 : 61 ≤ tp.length) (hl : tp.length ≤ 16384) (h11 : mI M (q 20 0) 11 = nI tp.length) (h44 : mI M (q 20 0) 44 = 0) (hBy : Bys tp) (h : FinK q M tp Kn (wfF (hdC tp))) : f_X12_readHead Y (q 20 0) M Kn := by
  have ewf := (st_wf (hdC tp) (-1) (hdC_w tp)).2 rfl
  rw [← ewf] at h
  unfold hdC at h
  simp only [List.foldl_cons, List.foldl_nil] at h
  suffices hh : f_X12_readHead Y (q 20 0) (fld q M (-1)) Kn by rwa [show fld q M (-1) = M from if_pos rfl] at hh
  generalize (-1 : Int32) = p at h ⊢
  unfold f_X12_readHead
  refine ⟨sk_20_0 hC, m_hnum hC hM hL h61 _ 57 4 (by simp) (by omega) (m_hnum hC hM hL h61 _ 43 8 (by simp) (by omega) (m_hnum hC hM hL h61 _ 0 8 (by simp) (by omega) ?_))⟩
  refine b01y (baB tp = 0) (fun y => f_X12_readHead_44 Y (q 20 0) Kn (beS (fB tp) 57 4) (prB tp) (fld q M p) y) (fun y hy => ?_)
  unfold f_X12_readHead_44
  refine m_field hC h44 hy (by decide) ?_
  generalize stp p _ 0 = p at h ⊢
  refine m_hnum hC hM hL h61 _ 12 4 (by simp) (by omega) ?_
  refine b01y _ (fun y => f_X12_readHead_69 Y (q 20 0) Kn (beS (fB tp) 57 4) (prB tp) (fld q M p) y) (fun y hy => ?_)
  unfold f_X12_readHead_69
  refine m_field hC h44 hy (by decide) ?_
  generalize stp p _ 12 = p at h ⊢
  refine ⟨_, by rw [fld_R]; exact sm_10 hM, sk_20_11 hC, by rw [sn_20_11 hC]; exact vp_in_nI (n := 16) (by decide) (by decide), ?_⟩
  have e16 : mI (fld q M p) (q 20 11) (16 : Int32).toNatClampNeg = 2 ↔ fB tp 16 = 2 := by
    rw [fld_n hC _ _ (by decide), show (16 : Int32).toNatClampNeg = 16 from rfl]
    have h16 := m8_fB hL (show 16 < tp.length by omega)
    rw [Nat.zero_add] at h16
    rw [h16]
    refine By_2e (hBy _ ?_)
    unfold fB
    rw [List.getD_eq_getElem?_getD, List.getElem?_eq_getElem (by omega)]
    exact List.getElem_mem _
  rw [e16]
  refine b01y _ (fun y => f_X12_readHead_91 Y (q 20 0) Kn (beS (fB tp) 57 4) (prB tp) (fld q M p) y) (fun y hy => ?_)
  unfold f_X12_readHead_91
  refine m_field hC h44 hy (by decide) ?_
  generalize stp p _ 16 = p at h ⊢
  refine m_hnum hC hM hL h61 _ 21 2 (by simp) (by omega) ?_
  refine b01y _ (fun y => f_X12_readHead_117 Y (q 20 0) Kn (beS (fB tp) 57 4) (prB tp) (fld q M p) y) (fun y hy => ?_)
  unfold f_X12_readHead_117
  refine m_field hC h44 hy (by decide) ?_
  generalize stp p _ 21 = p at h ⊢
  refine m_hnum hC hM hL h61 _ 23 4 (by simp) (by omega) ?_
  refine b01y _ (fun y => f_X12_readHead_145 Y (q 20 0) Kn (beS (fB tp) 57 4) (prB tp) (fld q M p) y) (fun y hy => ?_)
  unfold f_X12_readHead_145
  refine m_field hC h44 hy (by decide) ?_
  generalize stp p _ 23 = p at h ⊢
  have k := rngy (ftB tp) 0 1125899906842624 (fun y => f_X12_readHead_190 Y (q 20 0) Kn (beS (fB tp) 57 4) (prB tp) y (fld q M p)) (fun y hy => m_rh190 hC hM hL h61 hl h11 h44 hy h)
  exact m_hnum hC hM hL h61 _ 27 8 (by simp) (by omega) ⟨k.1, fun c => m_hnum hC hM hL h61 _ 27 8 (by simp) (by omega) (k.2 c)⟩
theorem Scr_F3 {q : Nat → Nat → Nat} (M : Mm) (a b : Int32) : Scr q M (sI M (q 20 0) (m1 (m1 (mI M (q 20 0)) 44 a) 45 b)) := by
  have := Scr_trans (Scr_sI (q := q) M (j := 44) a (by simp)) (Scr_sI (q := q) _ (j := 45) b (by simp))
  rw [mI_sI_self, sI_sI] at this
  exact this
/-- the model examines the tape -/
theorem m_readTape {Y : Ly} {q : Nat → Nat → Nat} {nL W nB : Nat} {tp : Bt} {M : Mm} {Kn : Mm → Prop} (hC : SC Y q nL W nB) (hM : SM q (mR M)) (hL : Lie (mI M (q 20 11)) 0 (m8 tp)) (hBy : Bys tp) (hl : tp.length ≤ 16384) (h11 : mI M (q 20 0) 11 = nI tp.length)
    (h : ∀ kd pl M', Exm tp kd pl → Scr q M M' → mI M' (q 20 0) 44 = kd → mI M' (q 20 0) 45 = pl → Kn M') : f_X12_readTape Y (q 20 0) M Kn := by
  have kt := sk_20_11 hC
  have nt := sn_20_11 hC
  unfold f_X12_readTape
  refine ⟨sk_20_0 hC, fun M2 e2 M3 e3 => ?_⟩
  subst e2
  rw [mI_sI_self, sI_sI] at e3
  have S3 : Scr q M M3 := by rw [e3]; exact Scr_F3 _ _ _
  have z44 : mI M3 (q 20 0) 44 = 0 := by rw [e3, mI_sI_self]; simp [m1]
  have z45 : mI M3 (q 20 0) 45 = -1 := by rw [e3, mI_sI_self]; simp [m1]
  have R3 : mR M3 = mR M := by rw [e3]; rfl
  clear e3
  have hM3 : SM q (mR M3) := by rw [R3]; exact hM
  have hL3 : Lie (mI M3 (q 20 11)) 0 (m8 tp) := by rw [Scr_I hC S3 (by omega)]; exact hL
  have h11' : mI M3 (q 20 0) 11 = nI tp.length := by rw [S3.2.2.1 11 (by omega)]; exact h11
  have tell1 : (tp.length < 61 ∨ ¬ b_sizeOf (fB tp) 0 = nI tp.length) → f_X12_readTape_41 Y (q 20 0) Kn M3 := by
    intro c
    unfold f_X12_readTape_41
    intro M5 e5 M6 e6
    rw [e5, mI_sI_self, sI_sI] at e6
    refine h 1 8 M6 (Or.inl ⟨c, rfl, rfl⟩) (Scr_trans S3 (by rw [e6]; exact Scr_F3 _ _ _)) ?_ ?_
    · rw [e6, mI_sI_self]; simp [m1]
    · rw [e6, mI_sI_self]; simp [m1]
  rw [h11', show (61 : Int32) = nI 61 from rfl, nI_ltI (by omega) (by omega)]
  refine ⟨fun c => tell1 (Or.inl c), fun c => ?_⟩
  have h61 : 61 ≤ tp.length := by omega
  refine ⟨_, sm_10 hM3, m_tnum (o := 8) (n := 4) hC hL3 h61 (by simp) (by omega) ?_⟩
  have e8 : beS (fB tp) 8 4 = (mI M3 (q 20 0) 11 - 12).toInt64 ↔ b_sizeOf (fB tp) 0 = nI tp.length := by
    rw [h11', show (nI tp.length - 12 : Int32) = nI (tp.length - 12) from by rw [show (12 : Int32) = nI 12 from rfl]; exact pk_sub (by omega)]
    unfold b_sizeOf
    rw [Nat.zero_add]
    have hx := beS4_ext (fB tp) 8
    refine ⟨fun e => ?_, fun e => ?_⟩
    · rw [e, nI_l (by omega), lN_i, show (12 : Int32) = nI 12 from rfl, nI_add]; congr 1; omega
    · have t : (beS (fB tp) 8 4).toInt32 = (12 + (beS (fB tp) 8 4).toInt32) - 12 := by
        rw [Int32.add_comm, Int32.add_sub_cancel]
      rw [e, show (12 : Int32) = nI 12 from rfl, pk_sub (by omega)] at t
      rw [← hx, t]
  rw [e8]
  refine ⟨fun c8 => ?_, fun c8 => tell1 (Or.inr c8)⟩
  refine m_rh hC hM3 hL3 h61 hl h11' z44 hBy ⟨fun cw => ?_, fun cw => ⟨fun ct => ?_, fun ct => ?_⟩⟩
  · have e1 : mI (fld q M3 (wfF (hdC tp))) (q 20 0) 44 = 2 := by unfold fld; rw [if_neg cw, mI_sI_self]; simp [m1]
    have e2 : mI (fld q M3 (wfF (hdC tp))) (q 20 0) 45 = wfF (hdC tp) := by unfold fld; rw [if_neg cw, mI_sI_self]; simp [m1]
    dsimp only
    rw [e1]
    exact ⟨fun z => absurd z (by decide), fun _ => h 2 _ _ (Or.inr ⟨h61, c8, Or.inl ⟨cw, rfl, rfl⟩⟩) (Scr_trans S3 (Scr_fld _ _)) e1 e2⟩
  · have e1 : mI (sI M3 (q 20 0) (m1 (m1 (mI M3 (q 20 0)) 44 3) 45 17)) (q 20 0) 44 = 3 := by rw [mI_sI_self]; simp [m1]
    dsimp only
    rw [e1]
    exact ⟨fun z => absurd z (by decide), fun _ => h 3 17 _ (Or.inr ⟨h61, c8, Or.inr ⟨cw, Or.inl ⟨ct, rfl, rfl⟩⟩⟩) (Scr_trans S3 (Scr_F3 _ _ _)) e1 (by rw [mI_sI_self]; simp [m1])⟩
  dsimp only
  rw [z44]
  refine ⟨fun _ => ?_, fun z => absurd (by decide : (0 : Int32) ≤ 0) z⟩
  refine ⟨_, sm_10 hM3, ?_⟩
  rw [h11']
  refine m_reads (b := 11) (a := 61) (e := tp.length) hC ?_
  intro M15 S15 R15 z42 z41 y44 y45
  rw [z44] at y44
  rw [z45] at y45
  obtain ⟨n, hn1, hn2, hn3, hn4⟩ := cnt_n (wf_facts cw).2.2.2.2.2.2
  refine LOOP3_inv (fun x5 x7 M8 => ∃ k a, k ≤ n ∧ x7 = nI k ∧ mI M8 (q 20 0) 42 = nI a ∧ 61 ≤ a ∧ a ≤ tp.length ∧ mI M8 (q 20 0) 41 = nI tp.length ∧ mR M8 (q 20 0) 40 = some (q 20 11) ∧ Scr q M M8 ∧ mI M8 (q 20 0) 44 = 0 ∧ mI M8 (q 20 0) 45 = -1 ∧ ∀ kd pl, ExR (ftB tp) (gtB tp) (n - k) k a (tp.drop a) x5 kd pl → ExR (ftB tp) (gtB tp) n 0 61 (tp.drop 61) 0 kd pl) (fun _ x7 _ => n - x7.toNatClampNeg) ?_ _ _ _ ⟨0, 61, by omega, rfl, z42, by omega, h61, z41, R15, Scr_trans S3 S15, y44, y45, fun kd pl hE => hE⟩
  rintro x5 x7 M8 again ⟨k, a, hk, rfl, e42, ha1, ha2, e41, e40, S8, e44, e45, hE⟩ hag
  have hM8 : SM q (mR M8) := Scr_SM S8 hM
  have hL8 : Lie (mI M8 (q 20 11)) 0 (m8 tp) := by rw [Scr_I hC S8 (by omega)]; exact hL
  have h11'' : mI M8 (q 20 0) 11 = nI tp.length := by rw [S8.2.2.1 11 (by omega)]; exact h11
  unfold L_X12_readTape_83 f_X12_readTape_219 f_X12_readTape_127
  have fin : ∀ kd pl M', ExR (ftB tp) (gtB tp) n 0 61 (tp.drop 61) 0 kd pl → Scr q M M' → mI M' (q 20 0) 44 = kd → mI M' (q 20 0) 45 = pl → Kn M' := fun kd pl M' hx => h kd pl M' (Or.inr ⟨h61, c8, Or.inr ⟨cw, Or.inr ⟨ct, n, hn2, hn4, hx⟩⟩⟩)
  refine ⟨_, sm_10 hM8, m_tnum (o := 57) (n := 4) hC hL8 h61 (by simp) (by omega) ?_⟩
  rw [hn3, nI_l (by omega), pk_lLE (by omega) (by omega)]
  refine ⟨fun c1 => ?_, fun c1 => ?_⟩
  · have hkn : n - k = 0 := by omega
    rw [hkn] at hE
    rw [h11'', e42, nI_cmp (by omega) (by omega)]
    refine ⟨fun c2 => ?_, fun c2 M31 e31 M32 e32 => ?_⟩
    · have hnil : tp.drop a = [] := List.drop_eq_nil_of_le c2
      refine ⟨_, sm_10 hM8, m_tnum (o := 35) (n := 8) hC hL8 h61 (by simp) (by omega) ?_⟩
      refine ⟨fun e => fin 0 (-1) M8 (hE _ _ (Or.inr (Or.inr ⟨hnil, e, rfl, rfl⟩))) S8 e44 e45, fun e M29 e29 M30 e30 => ?_⟩
      rw [e29, mI_sI_self, sI_sI] at e30
      refine fin 5 35 M30 (hE _ _ (Or.inr (Or.inl ⟨hnil, e, rfl, rfl⟩))) (Scr_trans S8 (by rw [e30]; exact Scr_F3 _ _ _)) ?_ ?_
      · rw [e30, mI_sI_self]; simp [m1]
      · rw [e30, mI_sI_self]; simp [m1]
    · have v42 : mI M31 (q 20 0) 42 = nI a := by rw [e31, mI_sI_self]; simp [m1, e42]
      rw [v42, e31, mI_sI_self, sI_sI] at e32
      refine fin 4 (nI a) M32 (hE _ _ (Or.inl ⟨?_, rfl, rfl⟩)) (Scr_trans S8 (by rw [e32]; exact Scr_F3 _ _ _)) ?_ ?_
      · intro hnil
        have := congrArg List.length hnil
        rw [List.length_drop] at this
        simp at this; omega
      · rw [e32, mI_sI_self]; simp [m1]
      · rw [e32, mI_sI_self]; simp [m1]
  · obtain ⟨m, hm⟩ : ∃ m, n - k = m + 1 := ⟨n - k - 1, by omega⟩
    rw [hm] at hE
    have hlen : (tp.drop a).length = tp.length - a := List.length_drop ..
    refine ⟨_, sm_10 hM8, m_tnum (o := 27) (n := 8) hC hL8 h61 (by simp) (by omega) ?_⟩
    have hLa : Lie (mI M8 (q 20 11)) a (m8 (tp.drop a)) := by
      have := Lie_drop hL8 a (by rw [m8_len]; exact ha2)
      rwa [Nat.zero_add, ← m8_drop] at this
    have bad : ∀ M36, (∀ c, ¬ okR (ftB tp) k (tp.drop a) c) → Scr q M M36 → mI M36 (q 20 0) 46 = nI a → ∀ M38 : Mm, M38 = sI M36 (q 20 0) (m1 (mI M36 (q 20 0)) 44 4) → ∀ M39 : Mm, M39 = sI M38 (q 20 0) (m1 (mI M38 (q 20 0)) 45 (mI M38 (q 20 0) 46)) → Kn M39 := by
      intro M36 hno S36 e46 M38 e38 M39 e39
      have v46 : mI M38 (q 20 0) 46 = nI a := by rw [e38, mI_sI_self]; simp [m1, e46]
      rw [v46, e38, mI_sI_self, sI_sI] at e39
      refine fin 4 (nI a) M39 (hE _ _ (Or.inr ⟨hno, rfl, rfl⟩)) (Scr_trans S36 (by rw [e39]; exact Scr_F3 _ _ _)) ?_ ?_
      · rw [e39, mI_sI_self]; simp [m1]
      · rw [e39, mI_sI_self]; simp [m1]
    refine m_rec (b := 11) (a := a) (e := tp.length) (bs := tp.drop a) hC e40 (by decide) kt hLa (Bys_drop hBy _) (by rw [hlen]; omega) (by omega) (by omega) e41 e42 ?_ ?_
    · intro c hc hok M36 S36 w40 w41 w44 w45 w46 w42 w49 w51 w47 w48 w50 w52
      have hdim := RF_dims hc
      rw [hlen] at hdim
      refine ⟨fun z => absurd z (by decide), fun _ => ?_⟩
      rw [w48, w47]
      refine ⟨fun e => ?_, fun e => bad M36 (fun c' hc' => e (by rw [RF_fun hc hc'.1]; exact hc'.2.1)) (Scr_trans S8 S36) w46⟩
      have nxt : ∀ y42, y42 = (if ftB tp + rT c < x5 then x5 else ftB tp + rT c) → f_X12_readTape_158 Y (nI k) again M36 y42 := by
        intro y42 hy x43 e43
        rw [nI_1] at e43
        subst e43
        refine hag _ _ _ ⟨k + 1, a + rC c, by omega, rfl, w42, by omega, by omega, w41, w40, Scr_trans S8 S36, by rw [w44]; exact e44, by rw [w45]; exact e45, fun kd pl hx => hE kd pl (Or.inl ⟨c, ⟨hc, e, hok⟩, ?_⟩)⟩ ?_
        · rw [List.drop_drop, ← hy]
          rwa [show n - (k + 1) = m from by omega] at hx
        · rw [nI_clamp (by omega), nI_clamp (by omega)]; omega
      refine ⟨fun c3 => nxt _ ?_, fun c3 => nxt _ ?_⟩
      · by_cases g : ftB tp + rT c < x5
        · rw [if_pos g]
        · rw [if_neg g]
          exact Int64.le_antisymm (Int64.not_lt.mp g) c3
      · have c3' : ¬ ftB tp + rT c ≤ x5 := c3
        rw [if_neg (fun g => c3' (Int64.le_of_lt g))]; rfl
    · intro hno M36 S36 w44 w45 w46
      exact ⟨fun _ => bad M36 (fun c' hc' => hno c' hc'.1 hc'.2.2) (Scr_trans S8 S36) w46, fun z => absurd rfl z⟩
