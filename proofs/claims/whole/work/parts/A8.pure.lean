/-! sealing -/
def gtD (ft : Int64) (D : Dr) : Int64 := if dN D = 0 then 0 else ft + (gdL (dT D) (dN D)).toInt64
def slB (pr : Int64) (ep sq : Int32) (ft : Int64) (D : Dr) : Bt := btF (btH (nI (dN D) - 1).toInt64 ft (gtD ft D) pr ep.toInt64 sq.toInt64 (nI (dN D)).toInt64 ++ dY D)
theorem slB_len (pr : Int64) (ep sq : Int32) (ft : Int64) (D : Dr) : (slB pr ep sq ft D).length = 61 + (dY D).length := by
  unfold slB; rw [btF_len, List.length_append, btH_len]; omega
def clD (D : Dr) : Dr := (dK D, dC D, dV D, dW D, dT D, 0)
theorem clD_I (D : Dr) : DrI (clD D) := ⟨Nat.zero_le _, Nat.zero_le _, fun k hk => absurd hk (Nat.not_lt_zero _)⟩
def PcS : Nat → Nat → Nat → Prop := fun a b j => PcT a b j ∨ PcD a b j
def PmS : Nat → Nat → Nat → Prop := fun a b j => a = 20 ∧ ((b = 0 ∧ (j = 0 ∨ j = 11 ∨ j = 12)) ∨ b = 11)
theorem seal_form {f g : Nat → Int32} {t : Nat} {tp : List Int32} {D : Dr} {pr : Int64} {ep sq : Int32} {ft : Int64} (ht : tp.length = t) (hI : DrI D) (h : Lie f 0 tp) (hg : Lie g 0 (dY D)) :
    Lie (w_finish (w_sign (w_begin (va_cpy g f 0 (t + 61) (dY D).length) t (nI (dN D)) ft (gtD ft D)) t pr ep sq) t (61 + (dY D).length)) 0 (tp ++ slB pr ep sq ft D) := by
  have i2 := hI.2.1
  obtain ⟨f1, hf1⟩ : ∃ f1, f1 = va_cpy g f 0 (t + 61) (dY D).length := ⟨_, rfl⟩
  have p1 : ∀ j, j < t + 61 → f1 j = f j := fun j hj => by rw [hf1]; unfold va_cpy; rw [if_neg (by omega)]
  have p2 : Lie f1 (t + 61) (dY D) := by
    refine Lie_move hg (fun j hj => ?_)
    rw [hf1]; unfold va_cpy
    rw [if_pos (by omega)]; congr 1; omega
  rw [← hf1]
  obtain ⟨b1, b2, b3, b4⟩ := bs_form f1 t (nI (dN D)) ft (gtD ft D) pr ep sq
  obtain ⟨f3, hf3⟩ : ∃ f3, f3 = w_sign (w_begin f1 t (nI (dN D)) ft (gtD ft D)) t pr ep sq := ⟨_, rfl⟩
  rw [← hf3] at b1 b2 b3 b4 ⊢
  have T : Lie f3 (t + 21) (btH (nI (dN D) - 1).toInt64 ft (gtD ft D) pr ep.toInt64 sq.toInt64 (nI (dN D)).toInt64 ++ dY D) := by
    refine Lie_app.mpr ⟨b1, ?_⟩
    rw [btH_len]
    exact Lie_same p2 (fun j h1 _ => b4 j (by omega))
  have ff := fin_form (f := f3) (a := t) (by rw [List.length_append, btH_len]; omega) T b2 b3
  rw [List.length_append, btH_len, show 21 + (40 + (dY D).length) = 61 + (dY D).length by omega] at ff
  refine Lie_app.mpr ⟨?_, ?_⟩
  · exact Lie_same h (fun j _ hj => by rw [ff.2 j (by omega), b4 j (by omega), p1 j (by omega)])
  · rw [Nat.zero_add, ht]; exact ff.1
def FtO (ft : Int64) : Prop := 0 ≤ ft ∧ ft ≤ 562949953421312
theorem c_seal {Y : Ly} {q : Nat → Nat → Nat} {nL W nB : Nat} {M : Mm} {D : Dr} {tp : List Int32} {pr : Int64} {ep sq : Int32} {ft : Int64} {Kn : Int32 → Mm → Prop} {Xn : String → Mm → Prop} (hC : SC Y q nL W nB) (hR : SR q nL (mR M)) (hT : TpC q M tp) (hTI : TpI tp) (hD : DrC q M D) (hI : DrI D) (h0 : ¬ FtO ft → Xn iAE M) (h2 : FtO ft → ¬ tp.length + 61 + (dY D).length ≤ 16384 → Xn iSE M)
    (h : FtO ft → tp.length + 61 + (dY D).length ≤ 16384 → ∀ M', Ec q PcS M M' → TpC q M' (tp ++ slB pr ep sq ft D) → DrC q M' (clD D) → Kn (nI (tp.length + 61 + (dY D).length)) M') : f_X11_seal Y (q 0 0) pr ep sq ft M Kn Xn := by
  have i1 := hI.1
  have i2 := hI.2.1
  have t1 := hTI.1
  obtain ⟨d1, d2, d3, d4⟩ := hD
  unfold f_X11_seal
  refine s_isWithin ?_
  split
  case isFalse g => exact ⟨fun z => absurd rfl z, fun _ => h0 g⟩
  rename_i g
  have h2 := h2 g
  have h := h g
  refine ⟨fun _ => ⟨sk_0_0 hC, _, sr_0_0_3 hR, sk_0_2 hC, fun x7 e7 => ?_⟩, fun z => absurd z (by decide)⟩
  rw [d1, show (61 : Int32) + nI (dY D).length = nI (61 + (dY D).length) from nI_add 61 _] at e7
  subst e7
  rw [hT.1, nI_add]
  refine pk_lt 16384 (tp.length + (61 + (dY D).length)) (fun g1 => ⟨fun z => absurd rfl z, fun _ => h2 (by omega)⟩) (fun g1 => ?_)
  have h := h (by omega)
  unfold f_X11_seal_42
  refine ⟨fun _ x10 e10 => ?_, fun z => absurd z (by decide)⟩
  rw [hT.1] at e10
  subst e10
  have e61 : nI tp.length + 61 = nI (tp.length + 61) := nI_add _ 61
  refine ⟨_, sr_0_0_3 hR, sk_0_2 hC, _, sr_0_2_0 hR, _, sr_0_0_1 hR, _, sr_0_0_3 hR, sk_0_2 hC, sk_0_3 hC, sk_0_1 hC, ?_⟩
  rw [d1, e61, nI_clamp (n := tp.length + 61) (by omega), nI_clamp (n := (dY D).length) (by omega), sn_0_3 hC, sn_0_1 hC]
  refine ⟨⟨by decide, nI_pos (by omega), nI_pos (by omega), by show 0 + _ ≤ _; omega, by omega⟩, fun M20 e20 => ?_⟩
  have e20 : M20 = sI M (q 0 1) (va_cpy (mI M (q 0 3)) (mI M (q 0 1)) 0 (tp.length + 61) (dY D).length) := e20
  have R20 : mR M20 = mR M := by rw [e20]; rfl
  have hR20 : SR q nL (mR M20) := by rw [R20]; exact hR
  have i20 : ∀ c, c ≠ 1 → mI M20 (q 0 c) = mI M (q 0 c) := fun c hc => by rw [e20]; exact I_ne hC _ _ (by omega)
  have fin : f_X11_seal_103 Y (q 0 0) pr ep sq ft Kn (nI (61 + (dY D).length)) (nI tp.length) M20 (gtD ft D) := by
    unfold f_X11_seal_103
    refine ⟨_, sr_0_0_1 hR20, _, sr_0_0_3 hR20, sk_0_2 hC, ?_⟩
    rw [i20 2 (by decide), d2]
    refine s_begin (sk_0_1 hC) (by rw [sn_0_1 hC]; omega) (by rw [sn_0_1 hC]; decide) ⟨_, sr_0_0_1 hR20, ?_⟩
    refine s_sign (sk_0_1 hC) (by rw [sn_0_1 hC]; omega) (by rw [sn_0_1 hC]; decide) ⟨_, sr_0_0_1 hR20, ?_⟩
    refine s_finish (sk_0_1 hC) (by omega) (by rw [sn_0_1 hC]; omega) (by rw [sn_0_1 hC]; decide) ?_
    simp only [sI_sI, mI_sI_self]
    intro M32 e32
    have eF : mI M20 (q 0 1) = va_cpy (mI M (q 0 3)) (mI M (q 0 1)) 0 (tp.length + 61) (dY D).length := by rw [e20, mI_sI_self]
    rw [eF, I_ne hC _ _ (by decide), i20 0 (by decide), hT.1, nI_add] at e32
    have sf := seal_form (pr := pr) (ep := ep) (sq := sq) (ft := ft) rfl hI hT.2 d4
    obtain ⟨F, hF⟩ : ∃ F, F = w_finish (w_sign (w_begin (va_cpy (mI M (q 0 3)) (mI M (q 0 1)) 0 (tp.length + 61) (dY D).length) tp.length (nI (dN D)) ft (gtD ft D)) tp.length pr ep sq) tp.length (61 + (dY D).length) := ⟨_, rfl⟩
    rw [← hF] at sf e32
    have R32 : mR M32 = mR M := by rw [e32]; exact R20
    refine ⟨_, by rw [R32]; exact sr_0_0_3 hR, ?_⟩
    unfold f_X4_clear
    refine ⟨sk_0_2 hC, sk_0_2 hC, fun M2 c2 M3 c3 M4 c4 => ?_⟩
    have q0 : mI M4 (q 0 0) 2 = nI (tp.length + 61 + (dY D).length) := by
      rw [c4, I_ne hC _ _ (by decide), c3, I_ne hC _ _ (by decide), c2, I_ne hC _ _ (by decide), e32, mI_sI_self, m1_at]; congr 1; omega
    have q1 : mI M4 (q 0 1) = F := by
      rw [c4, I_ne hC _ _ (by decide), c3, I_ne hC _ _ (by decide), c2, I_ne hC _ _ (by decide), e32, I_ne hC _ _ (by decide), mI_sI_self]
    dsimp only
    rw [q0]
    refine h M4 ?_ ⟨by rw [q0, List.length_append, slB_len]; congr 1; omega, by rw [q1]; exact sf⟩ ⟨?_, ?_, ?_, trivial⟩
    · refine Ec_trans (Ec_sIr hC e20 (fun j => Or.inl ⟨rfl, Or.inr rfl⟩)) (Ec_trans (Ec_sIr hC (a := 0) (b := 1) (f := F) rfl (fun j => Or.inl ⟨rfl, Or.inr rfl⟩)) (Ec_trans (Ec_sI hC (a := 0) (b := 0) (j := 2) (v := nI (tp.length + (61 + (dY D).length))) ?_ (Or.inl ⟨rfl, Or.inl ⟨rfl, rfl⟩⟩)) (Ec_trans (Ec_sI hC c2 (Or.inr ⟨rfl, Or.inl rfl⟩)) (Ec_trans (Ec_sI hC c3 (Or.inr ⟨rfl, Or.inl rfl⟩)) (Ec_sI hC c4 (Or.inr ⟨rfl, Or.inl rfl⟩))))))
      rw [I_ne hC _ _ (by decide), i20 0 (by decide)]; exact e32
    · rw [c4, mI_sI_self, m1_nat _ _ (by decide), c3, mI_sI_self, m1_nat _ _ (by decide), c2, mI_sI_self, m1_at]; rfl
    · rw [c4, mI_sI_self, m1_nat _ _ (by decide), c3, mI_sI_self, m1_at]; rfl
    · rw [c4, mI_sI_self, m1_at]; rfl
  refine ⟨_, sr_0_0_3 hR20, sk_0_2 hC, ?_⟩
  rw [i20 2 (by decide), d2]
  by_cases z : dN D = 0
  · rw [z]
    refine ⟨fun c => absurd rfl c, fun _ => ?_⟩
    have : gtD ft D = 0 := by unfold gtD; rw [if_pos z]
    rw [this] at fin; exact fin
  · refine ⟨fun _ => ⟨_, sr_0_0_3 hR20, sk_0_2 hC, ?_⟩, fun c => absurd ((nIeq (b := 0) rfl (by omega) (by omega)).mp c) z⟩
    have : gtD ft D = ft + (gdL (dT D) (dN D)).toInt64 := by unfold gtD; rw [if_neg z]
    rw [i20 2 (by decide), d3, ← this]; exact fin
