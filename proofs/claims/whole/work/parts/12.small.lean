/-! by gen.py: what the methods do, and that they do it -/
abbrev rm_X8_addSegment : Room := { frames := 2, cells := 0, slots := 0, locals := 80 }
def f_X8_addSegment (Y : Ly) (v0 : Nat) (v1 : Int32) (M : Mm) (Kn : Mm → Prop) : Prop :=
  yK Y v0 = 8 ∧ (∃ b2 : Nat, mR M v0 4 = some b2 ∧ (yK Y b2 = 101 ∧ (vp_in (mI M v0 3) (yN Y b2) ∧ (∀ M5 : Mm, M5 = sI M b2 (m1 (mI M b2) (mI M v0 3).toNatClampNeg v1) → (∃ b6 : Nat, mR M5 v0 5 = some b6 ∧ (yK Y b6 = 101 ∧ (vp_in (mI M5 v0 3) (yN Y b6) ∧ (∀ M9 : Mm, M9 = sI M5 b6 (m1 (mI M5 b6) (mI M5 v0 3).toNatClampNeg 0) → (∃ b10 : Nat, mR M9 v0 6 = some b10 ∧ (yK Y b10 = 101 ∧ (vp_in (mI M9 v0 3) (yN Y b10) ∧ (∀ M13 : Mm, M13 = sI M9 b10 (m1 (mI M9 b10) (mI M9 v0 3).toNatClampNeg 0) → (∀ M14 : Mm, M14 = sI M13 v0 (m1 (mI M13 v0) 3 ((mI M13 v0 3) + 1)) → (Kn M14))))))))))))))
set_option maxHeartbeats 4000000 in
set_option maxRecDepth 100000 in
theorem m_X8_addSegment (l : Launch) (D : va_G) (cy : Cy) (tq sz : Nat) (Y : Ly) (v0 : Nat) (v1 : Int32) (M : Mm) (Kn : Mm → Prop) : Met l yX8_addSegment (Cond.code yX8_addSegment cX8_addSegment 2 none :: TT) rm_X8_addSegment (PcG D cy tq [.ref v0, .int v1] sz Y M (f_X8_addSegment Y v0 v1 M Kn)) (va_Qv Kn (BG D cy (Am Y sz) Y) (Am Y sz)) 0 0 (Am Y sz) := by
  refine Met.ofW (cc := cX8_addSegment) (maxL := 2) (ret := none) (by decide) rfl ?_
  intro p e s m args below meth c s₁ B hml hv
  obtain ⟨hargs, hsz, hW, hK, hC, hf⟩ := hv
  subst hsz
  have hx := B.exec
  have hb := B.bytes
  have hr := B.returns
  have hts : ∀ w ∈ TT, w.before args s = true := fun w h => atoms_spec (ws := Cond.code yX8_addSegment cX8_addSegment 2 none :: TT) B.pre w (List.mem_cons_of_mem _ h)
  have hown : s.vm.findClass RX8 = some m.cls := findClass_of_methodNamed B.named
  have hlocks := B.notSynchronized
  replace hW := Wd_self (sz := s.heap.size) hW
  generalize hAe : Am Y s.heap.size = A at hW hC ⊢
  have hA : ∀ q : Nat, s.heap.size ≤ q → A q := fun q h => by rw [← hAe]; exact Or.inr h
  clear hAe
  have hS : va_S A s.heap s.heap [] := va_S.rf
  obtain ⟨ls, hE, hl⟩ := gm_entry m [.ref v0, .int v1] (n := 2) hargs (Nat.le_of_ble_eq_true rfl)
  rw [hE]
  have hl : lv_has ls 2 [(0, .ref v0), (1, .int v1)] := hl
  show W p l e rm_X8_addSegment s m args below meth c s.heap [] 0 0 (MQ below (va_Qv Kn (BG D cy A Y) A) args s 0 0 A) (F0 m 0 ls [])
  unfold f_X8_addSegment at hf
  refine lv_aload_n hx hb dX8_addSegment_0 rfl (lv_at hl 0 rfl) ?_
  obtain ⟨k1, hf⟩ := hf
  obtain ⟨b2, hb2, hf⟩ := hf
  refine gm_getR (C := RX8) (T := TX8) (N := 9) (j := 4) hx hb hts inT_8 hown hK hW k1 (by decide) rfl (by decide) rfl (hts _ kw_182) rfl dX8_addSegment_1 hb2 ?_
  refine lv_aload_n hx hb dX8_addSegment_4 rfl (lv_at hl 0 rfl) ?_
  refine gm_getI (C := RX8) (T := TX8) (N := 9) (j := 3) hx hb hts inT_8 hown hK hW k1 (by decide) rfl (by decide) rfl (hts _ kw_179) rfl dX8_addSegment_5 ?_
  refine lv_iload_n hx hb dX8_addSegment_8 rfl (lv_at hl 1 rfl) ?_
  obtain ⟨k3, hf⟩ := hf
  obtain ⟨h4, hf⟩ := hf
  refine gm_iast hx hb hK hW hS k3 h4 dX8_addSegment_9 (fun H locs M5 eM5 hW hS => ?_)
  replace hf := hf M5 eM5
  refine lv_aload_n hx hb dX8_addSegment_10 rfl (lv_at hl 0 rfl) ?_
  obtain ⟨b6, hb6, hf⟩ := hf
  refine gm_getR (C := RX8) (T := TX8) (N := 9) (j := 5) hx hb hts inT_8 hown hK hW k1 (by decide) rfl (by decide) rfl (hts _ kw_185) rfl dX8_addSegment_11 hb6 ?_
  refine lv_aload_n hx hb dX8_addSegment_14 rfl (lv_at hl 0 rfl) ?_
  refine gm_getI (C := RX8) (T := TX8) (N := 9) (j := 3) hx hb hts inT_8 hown hK hW k1 (by decide) rfl (by decide) rfl (hts _ kw_179) rfl dX8_addSegment_15 ?_
  refine lv_iconst (v := 0) hx hb dX8_addSegment_18 (by decide +kernel) ?_
  obtain ⟨k7, hf⟩ := hf
  obtain ⟨h8, hf⟩ := hf
  refine gm_iast hx hb hK hW hS k7 h8 dX8_addSegment_19 (fun H locs M9 eM9 hW hS => ?_)
  replace hf := hf M9 eM9
  refine lv_aload_n hx hb dX8_addSegment_20 rfl (lv_at hl 0 rfl) ?_
  obtain ⟨b10, hb10, hf⟩ := hf
  refine gm_getR (C := RX8) (T := TX8) (N := 9) (j := 6) hx hb hts inT_8 hown hK hW k1 (by decide) rfl (by decide) rfl (hts _ kw_187) rfl dX8_addSegment_21 hb10 ?_
  refine lv_aload_n hx hb dX8_addSegment_24 rfl (lv_at hl 0 rfl) ?_
  refine gm_getI (C := RX8) (T := TX8) (N := 9) (j := 3) hx hb hts inT_8 hown hK hW k1 (by decide) rfl (by decide) rfl (hts _ kw_179) rfl dX8_addSegment_25 ?_
  refine lv_iconst (v := 0) hx hb dX8_addSegment_28 (by decide +kernel) ?_
  obtain ⟨k11, hf⟩ := hf
  obtain ⟨h12, hf⟩ := hf
  refine gm_iast hx hb hK hW hS k11 h12 dX8_addSegment_29 (fun H locs M13 eM13 hW hS => ?_)
  replace hf := hf M13 eM13
  refine lv_aload_n hx hb dX8_addSegment_30 rfl (lv_at hl 0 rfl) ?_
  refine lv_dup hx hb dX8_addSegment_31 rfl ?_
  refine gm_getI (C := RX8) (T := TX8) (N := 9) (j := 3) hx hb hts inT_8 hown hK hW k1 (by decide) rfl (by decide) rfl (hts _ kw_179) rfl dX8_addSegment_32 ?_
  refine lv_iconst (v := 1) hx hb dX8_addSegment_35 (by decide +kernel) ?_
  refine lv_iadd hx hb dX8_addSegment_36 ?_
  refine gm_putI (C := RX8) (T := TX8) (N := 9) (j := 3) hx hb hts inT_8 tyX8 tyX8_ok nmX8 hown hK hW hS k1 (by decide) rfl (by decide) rfl (hts _ kw_179) rfl rfl rfl rfl dX8_addSegment_37 (fun H locs M14 eM14 hW hS => ?_)
  replace hf := hf M14 eM14
  exact gm_vret hx hb hr hlocks hW hS hf dX8_addSegment_40

abbrev rm_X8_clear : Room := { frames := 2, cells := 0, slots := 0, locals := 80 }
def f_X8_clear (Y : Ly) (v0 : Nat) (M : Mm) (Kn : Mm → Prop) : Prop :=
  yK Y v0 = 8 ∧ (∀ M2 : Mm, M2 = sI M v0 (m1 (mI M v0) 3 0) → (∀ M3 : Mm, M3 = sI M2 v0 (m1 (mI M2 v0) 7 0) → (Kn M3)))
set_option maxHeartbeats 4000000 in
set_option maxRecDepth 100000 in
theorem m_X8_clear (l : Launch) (D : va_G) (cy : Cy) (tq sz : Nat) (Y : Ly) (v0 : Nat) (M : Mm) (Kn : Mm → Prop) : Met l yX8_clear (Cond.code yX8_clear cX8_clear 1 none :: TT) rm_X8_clear (PcG D cy tq [.ref v0] sz Y M (f_X8_clear Y v0 M Kn)) (va_Qv Kn (BG D cy (Am Y sz) Y) (Am Y sz)) 0 0 (Am Y sz) := by
  refine Met.ofW (cc := cX8_clear) (maxL := 1) (ret := none) (by decide) rfl ?_
  intro p e s m args below meth c s₁ B hml hv
  obtain ⟨hargs, hsz, hW, hK, hC, hf⟩ := hv
  subst hsz
  have hx := B.exec
  have hb := B.bytes
  have hr := B.returns
  have hts : ∀ w ∈ TT, w.before args s = true := fun w h => atoms_spec (ws := Cond.code yX8_clear cX8_clear 1 none :: TT) B.pre w (List.mem_cons_of_mem _ h)
  have hown : s.vm.findClass RX8 = some m.cls := findClass_of_methodNamed B.named
  have hlocks := B.notSynchronized
  replace hW := Wd_self (sz := s.heap.size) hW
  generalize hAe : Am Y s.heap.size = A at hW hC ⊢
  have hA : ∀ q : Nat, s.heap.size ≤ q → A q := fun q h => by rw [← hAe]; exact Or.inr h
  clear hAe
  have hS : va_S A s.heap s.heap [] := va_S.rf
  obtain ⟨ls, hE, hl⟩ := gm_entry m [.ref v0] (n := 1) hargs (Nat.le_of_ble_eq_true rfl)
  rw [hE]
  have hl : lv_has ls 1 [(0, .ref v0)] := hl
  show W p l e rm_X8_clear s m args below meth c s.heap [] 0 0 (MQ below (va_Qv Kn (BG D cy A Y) A) args s 0 0 A) (F0 m 0 ls [])
  unfold f_X8_clear at hf
  refine lv_aload_n hx hb dX8_clear_0 rfl (lv_at hl 0 rfl) ?_
  refine lv_iconst (v := 0) hx hb dX8_clear_1 (by decide +kernel) ?_
  obtain ⟨k1, hf⟩ := hf
  refine gm_putI (C := RX8) (T := TX8) (N := 9) (j := 3) hx hb hts inT_8 tyX8 tyX8_ok nmX8 hown hK hW hS k1 (by decide) rfl (by decide) rfl (hts _ kw_179) rfl rfl rfl rfl dX8_clear_2 (fun H locs M2 eM2 hW hS => ?_)
  replace hf := hf M2 eM2
  refine lv_aload_n hx hb dX8_clear_5 rfl (lv_at hl 0 rfl) ?_
  refine lv_iconst (v := 0) hx hb dX8_clear_6 (by decide +kernel) ?_
  refine gm_putI (C := RX8) (T := TX8) (N := 9) (j := 7) hx hb hts inT_8 tyX8 tyX8_ok nmX8 hown hK hW hS k1 (by decide) rfl (by decide) rfl (hts _ kw_191) rfl rfl rfl rfl dX8_clear_7 (fun H locs M3 eM3 hW hS => ?_)
  replace hf := hf M3 eM3
  exact gm_vret hx hb hr hlocks hW hS hf dX8_clear_10

abbrev rm_X8_addBatch : Room := { frames := 2, cells := 0, slots := 0, locals := 80 }
def f_X8_addBatch (Y : Ly) (v0 : Nat) (v1 : Int32) (M : Mm) (Kn : Int32 → Mm → Prop) : Prop :=
  yK Y v0 = 8 ∧ (∀ x2 : Int32, x2 = (mI M v0 3) - 1 → (∃ b3 : Nat, mR M v0 4 = some b3 ∧ (yK Y b3 = 101 ∧ (vp_in x2 (yN Y b3) ∧ (∃ b6 : Nat, mR M v0 5 = some b6 ∧ (yK Y b6 = 101 ∧ (vp_in x2 (yN Y b6) ∧ (∀ x9 : Int32, x9 = ((mI M b3 x2.toNatClampNeg) * 1024) + (mI M b6 x2.toNatClampNeg) → (∃ b10 : Nat, mR M v0 8 = some b10 ∧ (yK Y b10 = 101 ∧ (vp_in (mI M v0 7) (yN Y b10) ∧ (∀ M13 : Mm, M13 = sI M b10 (m1 (mI M b10) (mI M v0 7).toNatClampNeg x9) → (∀ M14 : Mm, M14 = sI M13 v0 (m1 (mI M13 v0) 7 ((mI M13 v0 7) + 1)) → (∃ b15 : Nat, mR M14 v0 5 = some b15 ∧ (yK Y b15 = 101 ∧ (vp_in x2 (yN Y b15) ∧ (vp_in x2 (yN Y b15) ∧ (∀ M19 : Mm, M19 = sI M14 b15 (m1 (mI M14 b15) x2.toNatClampNeg ((mI M14 b15 x2.toNatClampNeg) + v1)) → (∃ b20 : Nat, mR M19 v0 6 = some b20 ∧ (yK Y b20 = 101 ∧ (vp_in x2 (yN Y b20) ∧ (vp_in x2 (yN Y b20) ∧ (∀ M24 : Mm, M24 = sI M19 b20 (m1 (mI M19 b20) x2.toNatClampNeg ((mI M19 b20 x2.toNatClampNeg) + 1)) → (Kn x9 M24))))))))))))))))))))))))
set_option maxHeartbeats 4000000 in
set_option maxRecDepth 100000 in
theorem m_X8_addBatch (l : Launch) (D : va_G) (cy : Cy) (tq sz : Nat) (Y : Ly) (v0 : Nat) (v1 : Int32) (M : Mm) (Kn : Int32 → Mm → Prop) : Met l yX8_addBatch (Cond.code yX8_addBatch cX8_addBatch 4 (some .int) :: TT) rm_X8_addBatch (PcG D cy tq [.ref v0, .int v1] sz Y M (f_X8_addBatch Y v0 v1 M Kn)) (va_Qi Kn (BG D cy (Am Y sz) Y) (Am Y sz)) 0 0 (Am Y sz) := by
  refine Met.ofW (cc := cX8_addBatch) (maxL := 4) (ret := (some .int)) (by decide) rfl ?_
  intro p e s m args below meth c s₁ B hml hv
  obtain ⟨hargs, hsz, hW, hK, hC, hf⟩ := hv
  subst hsz
  have hx := B.exec
  have hb := B.bytes
  have hr := B.returns
  have hts : ∀ w ∈ TT, w.before args s = true := fun w h => atoms_spec (ws := Cond.code yX8_addBatch cX8_addBatch 4 (some .int) :: TT) B.pre w (List.mem_cons_of_mem _ h)
  have hown : s.vm.findClass RX8 = some m.cls := findClass_of_methodNamed B.named
  have hlocks := B.notSynchronized
  replace hW := Wd_self (sz := s.heap.size) hW
  generalize hAe : Am Y s.heap.size = A at hW hC ⊢
  have hA : ∀ q : Nat, s.heap.size ≤ q → A q := fun q h => by rw [← hAe]; exact Or.inr h
  clear hAe
  have hS : va_S A s.heap s.heap [] := va_S.rf
  obtain ⟨ls, hE, hl⟩ := gm_entry m [.ref v0, .int v1] (n := 4) hargs (Nat.le_of_ble_eq_true rfl)
  rw [hE]
  have hl : lv_has ls 4 [(0, .ref v0), (1, .int v1)] := hl
  show W p l e rm_X8_addBatch s m args below meth c s.heap [] 0 0 (MQ below (va_Qi Kn (BG D cy A Y) A) args s 0 0 A) (F0 m 0 ls [])
  unfold f_X8_addBatch at hf
  refine lv_aload_n hx hb dX8_addBatch_0 rfl (lv_at hl 0 rfl) ?_
  obtain ⟨k1, hf⟩ := hf
  refine gm_getI (C := RX8) (T := TX8) (N := 9) (j := 3) hx hb hts inT_8 hown hK hW k1 (by decide) rfl (by decide) rfl (hts _ kw_179) rfl dX8_addBatch_1 ?_
  refine lv_iconst (v := 1) hx hb dX8_addBatch_4 (by decide +kernel) ?_
  refine lv_isub hx hb dX8_addBatch_5 ?_
  refine lv_topi (fun x2 ex2 => ?_)
  replace hf := hf x2 ex2
  refine lv_istore_n (lv' := [(2, .int x2), (0, .ref v0), (1, .int v1)]) hx hb dX8_addBatch_6 rfl hl (by decide) rfl (fun ls hl => ?_)
  refine lv_aload_n hx hb dX8_addBatch_7 rfl (lv_at hl 1 rfl) ?_
  obtain ⟨b3, hb3, hf⟩ := hf
  refine gm_getR (C := RX8) (T := TX8) (N := 9) (j := 4) hx hb hts inT_8 hown hK hW k1 (by decide) rfl (by decide) rfl (hts _ kw_182) rfl dX8_addBatch_8 hb3 ?_
  refine lv_iload_n hx hb dX8_addBatch_11 rfl (lv_at hl 0 rfl) ?_
  obtain ⟨k4, hf⟩ := hf
  obtain ⟨h5, hf⟩ := hf
  refine gm_iald hx hb hK hW k4 h5 dX8_addBatch_12 ?_
  refine lv_sipush (v := 1024) hx hb dX8_addBatch_13 (by decide +kernel) ?_
  refine lv_imul hx hb dX8_addBatch_16 ?_
  refine lv_aload_n hx hb dX8_addBatch_17 rfl (lv_at hl 1 rfl) ?_
  obtain ⟨b6, hb6, hf⟩ := hf
  refine gm_getR (C := RX8) (T := TX8) (N := 9) (j := 5) hx hb hts inT_8 hown hK hW k1 (by decide) rfl (by decide) rfl (hts _ kw_185) rfl dX8_addBatch_18 hb6 ?_
  refine lv_iload_n hx hb dX8_addBatch_21 rfl (lv_at hl 0 rfl) ?_
  obtain ⟨k7, hf⟩ := hf
  obtain ⟨h8, hf⟩ := hf
  refine gm_iald hx hb hK hW k7 h8 dX8_addBatch_22 ?_
  refine lv_iadd hx hb dX8_addBatch_23 ?_
  refine lv_topi (fun x9 ex9 => ?_)
  replace hf := hf x9 ex9
  refine lv_istore_n (lv' := [(3, .int x9), (2, .int x2), (0, .ref v0), (1, .int v1)]) hx hb dX8_addBatch_24 rfl hl (by decide) rfl (fun ls hl => ?_)
  refine lv_aload_n hx hb dX8_addBatch_25 rfl (lv_at hl 2 rfl) ?_
  obtain ⟨b10, hb10, hf⟩ := hf
  refine gm_getR (C := RX8) (T := TX8) (N := 9) (j := 8) hx hb hts inT_8 hown hK hW k1 (by decide) rfl (by decide) rfl (hts _ kw_195) rfl dX8_addBatch_26 hb10 ?_
  refine lv_aload_n hx hb dX8_addBatch_29 rfl (lv_at hl 2 rfl) ?_
  refine gm_getI (C := RX8) (T := TX8) (N := 9) (j := 7) hx hb hts inT_8 hown hK hW k1 (by decide) rfl (by decide) rfl (hts _ kw_191) rfl dX8_addBatch_30 ?_
  refine lv_iload_n hx hb dX8_addBatch_33 rfl (lv_at hl 0 rfl) ?_
  obtain ⟨k11, hf⟩ := hf
  obtain ⟨h12, hf⟩ := hf
  refine gm_iast hx hb hK hW hS k11 h12 dX8_addBatch_34 (fun H locs M13 eM13 hW hS => ?_)
  replace hf := hf M13 eM13
  refine lv_aload_n hx hb dX8_addBatch_35 rfl (lv_at hl 2 rfl) ?_
  refine lv_dup hx hb dX8_addBatch_36 rfl ?_
  refine gm_getI (C := RX8) (T := TX8) (N := 9) (j := 7) hx hb hts inT_8 hown hK hW k1 (by decide) rfl (by decide) rfl (hts _ kw_191) rfl dX8_addBatch_37 ?_
  refine lv_iconst (v := 1) hx hb dX8_addBatch_40 (by decide +kernel) ?_
  refine lv_iadd hx hb dX8_addBatch_41 ?_
  refine gm_putI (C := RX8) (T := TX8) (N := 9) (j := 7) hx hb hts inT_8 tyX8 tyX8_ok nmX8 hown hK hW hS k1 (by decide) rfl (by decide) rfl (hts _ kw_191) rfl rfl rfl rfl dX8_addBatch_42 (fun H locs M14 eM14 hW hS => ?_)
  replace hf := hf M14 eM14
  refine lv_aload_n hx hb dX8_addBatch_45 rfl (lv_at hl 2 rfl) ?_
  obtain ⟨b15, hb15, hf⟩ := hf
  refine gm_getR (C := RX8) (T := TX8) (N := 9) (j := 5) hx hb hts inT_8 hown hK hW k1 (by decide) rfl (by decide) rfl (hts _ kw_185) rfl dX8_addBatch_46 hb15 ?_
  refine lv_iload_n hx hb dX8_addBatch_49 rfl (lv_at hl 1 rfl) ?_
  refine lv_dup2_11 hx hb dX8_addBatch_50 rfl rfl ?_
  obtain ⟨k16, hf⟩ := hf
  obtain ⟨h17, hf⟩ := hf
  refine gm_iald hx hb hK hW k16 h17 dX8_addBatch_51 ?_
  refine lv_iload_n hx hb dX8_addBatch_52 rfl (lv_at hl 3 rfl) ?_
  refine lv_iadd hx hb dX8_addBatch_53 ?_
  obtain ⟨h18, hf⟩ := hf
  refine gm_iast hx hb hK hW hS k16 h18 dX8_addBatch_54 (fun H locs M19 eM19 hW hS => ?_)
  replace hf := hf M19 eM19
  refine lv_aload_n hx hb dX8_addBatch_55 rfl (lv_at hl 2 rfl) ?_
  obtain ⟨b20, hb20, hf⟩ := hf
  refine gm_getR (C := RX8) (T := TX8) (N := 9) (j := 6) hx hb hts inT_8 hown hK hW k1 (by decide) rfl (by decide) rfl (hts _ kw_187) rfl dX8_addBatch_56 hb20 ?_
  refine lv_iload_n hx hb dX8_addBatch_59 rfl (lv_at hl 1 rfl) ?_
  refine lv_dup2_11 hx hb dX8_addBatch_60 rfl rfl ?_
  obtain ⟨k21, hf⟩ := hf
  obtain ⟨h22, hf⟩ := hf
  refine gm_iald hx hb hK hW k21 h22 dX8_addBatch_61 ?_
  refine lv_iconst (v := 1) hx hb dX8_addBatch_62 (by decide +kernel) ?_
  refine lv_iadd hx hb dX8_addBatch_63 ?_
  obtain ⟨h23, hf⟩ := hf
  refine gm_iast hx hb hK hW hS k21 h23 dX8_addBatch_64 (fun H locs M24 eM24 hW hS => ?_)
  replace hf := hf M24 eM24
  refine lv_iload_n hx hb dX8_addBatch_65 rfl (lv_at hl 0 rfl) ?_
  exact gm_iret hx hb hr hlocks hW hS hf dX8_addBatch_66

abbrev rm_X4_init : Room := { frames := 2, cells := 1, slots := 16000, locals := 80 }
def f_X4_init (Y : Ly) (v0 : Nat) (M : Mm) (Kn : Ly → Mm → Prop) : Prop :=
  ∀ q1 : Nat, yK Y q1 = 0 → ∀ Y2 : Ly, Y2 = yNew Y q1 100 16000 → ∀ M3 : Mm, M3 = mZ M q1 → (yK Y2 v0 = 4 ∧ (∀ M5 : Mm, M5 = sR M3 v0 (m1 (mR M3 v0) 0 (some q1)) → (Kn Y2 M5)))
set_option maxHeartbeats 4000000 in
set_option maxRecDepth 100000 in
theorem m_X4_init (l : Launch) (D : va_G) (cy : Cy) (tq sz : Nat) (Y : Ly) (v0 : Nat) (M : Mm) (Kn : Ly → Mm → Prop) : Met l yX4_init (Cond.code yX4_init cX4_init 1 none :: TT) rm_X4_init (PcG D cy tq [.ref v0] sz Y M (f_X4_init Y v0 M Kn)) (QA D cy (Am Y sz) Kn) 1 16000 (Am Y sz) := by
  refine Met.ofW (cc := cX4_init) (maxL := 1) (ret := none) (by decide) rfl ?_
  intro p e s m args below meth c s₁ B hml hv
  obtain ⟨hargs, hsz, hW, hK, hC, hf⟩ := hv
  subst hsz
  have hx := B.exec
  have hb := B.bytes
  have hr := B.returns
  have hts : ∀ w ∈ TT, w.before args s = true := fun w h => atoms_spec (ws := Cond.code yX4_init cX4_init 1 none :: TT) B.pre w (List.mem_cons_of_mem _ h)
  have hown : s.vm.findClass RX4 = some m.cls := findClass_of_methodNamed B.named
  have hlocks := B.notSynchronized
  have hin : meth.name = "<init>" := (name_of_methodNamed B.named B.method).1
  replace hW := Wd_self (sz := s.heap.size) hW
  generalize hAe : Am Y s.heap.size = A at hW hC ⊢
  have hA : ∀ q : Nat, s.heap.size ≤ q → A q := fun q h => by rw [← hAe]; exact Or.inr h
  clear hAe
  have hS : va_S A s.heap s.heap [] := va_S.rf
  obtain ⟨ls, hE, hl⟩ := gm_entry m [.ref v0] (n := 1) hargs (Nat.le_of_ble_eq_true rfl)
  rw [hE]
  have hl : lv_has ls 1 [(0, .ref v0)] := hl
  show W p l e rm_X4_init s m args below meth c s.heap [] 0 0 (MQ below (QA D cy A Kn) args s 1 16000 A) (F0 m 0 ls [])
  unfold f_X4_init at hf
  refine lv_aload_n hx hb dX4_init_0 rfl (lv_at hl 0 rfl) ?_
  refine W.objInit hx hb hown (hts _ kw_42) (hts _ kw_36) (hts _ kw_37) rfl (by rw [hml]; exact hl.1) rfl dX4_init_1 (Nat.le_of_ble_eq_true rfl) (Nat.le_of_ble_eq_true rfl) ?_
  refine W.eq (g2 := F0 m 4 ls []) rfl ?_
  refine lv_aload_n hx hb dX4_init_4 rfl (lv_at hl 0 rfl) ?_
  refine lv_sipush (v := 16000) hx hb dX4_init_5 (by decide +kernel) ?_
  refine gm_newb hx hb (hts _ kw_55) hK hW hS hA (n := 16000) 16000 (by decide +kernel) (by decide +kernel) (Nat.le_refl _) (by decide) (by show _ ≤ 1; omega) (by show _ ≤ 16000; omega) dX4_init_8 (fun q1 H Y2 M3 h0q1 eY2 eM3 hW hS => ?_)
  replace hf := hf q1 h0q1 Y2 eY2 M3 eM3
  obtain ⟨k4, hf⟩ := hf
  refine gm_putFR (C := RX4) (T := TX4) (N := 4) (j := 0) hx hb hts inT_4 tyX4 tyX4_ok nmX4 hown hK hW hS k4 (by decide) rfl (by decide) rfl (hts _ kw_43) rfl rfl hin rfl rfl rfl dX4_init_10 (fun H locs M5 eM5 hW hS => ?_)
  replace hf := hf M5 eM5
  refine W.widen (k := 1) (n := 16000) (by omega) (by omega) ?_
  exact gm_vretA hx hb hr hlocks hW hS hf dX4_init_13

abbrev rm_X4_bodyBytes : Room := { frames := 4, cells := 0, slots := 0, locals := 126 }
def f_X4_bodyBytes (Y : Ly) (v0 : Int32) (v1 : Int32) (v2 : Int32) (v3 : Int32) (M : Mm) (Kn : Int32 → Mm → Prop) : Prop :=
  f_X1_varintBytes Y v0.toInt64 M (fun r2 M1 => (f_X1_varintBytes Y v1.toInt64 M1 (fun r4 M3 => (∀ x5 : Int32, x5 = r2 + r4 → (f_X1_varintBytes Y v2.toInt64 M3 (fun r7 M6 => (∀ x8 : Int32, x8 = r7 + (if v2 < 0 then 0 else v2) → (f_X1_varintBytes Y v3.toInt64 M6 (fun r10 M9 => (∀ x11 : Int32, x11 = r10 + (if v3 < 0 then 0 else v3) → (Kn ((((1 + x5) + x8) + x11) + 1) M9)))))))))))
set_option maxHeartbeats 4000000 in
set_option maxRecDepth 100000 in
theorem m_X4_bodyBytes (l : Launch) (D : va_G) (cy : Cy) (tq sz : Nat) (Y : Ly) (v0 : Int32) (v1 : Int32) (v2 : Int32) (v3 : Int32) (M : Mm) (Kn : Int32 → Mm → Prop) : Met l yX4_bodyBytes (Cond.code yX4_bodyBytes cX4_bodyBytes 7 (some .int) :: TT) rm_X4_bodyBytes (PcG D cy tq [.int v0, .int v1, .int v2, .int v3] sz Y M (f_X4_bodyBytes Y v0 v1 v2 v3 M Kn)) (va_Qi Kn (BG D cy (Am Y sz) Y) (Am Y sz)) 0 0 (Am Y sz) := by
  refine Met.ofW (cc := cX4_bodyBytes) (maxL := 7) (ret := (some .int)) (by decide) rfl ?_
  intro p e s m args below meth c s₁ B hml hv
  obtain ⟨hargs, hsz, hW, hK, hC, hf⟩ := hv
  subst hsz
  have hx := B.exec
  have hb := B.bytes
  have hr := B.returns
  have hts : ∀ w ∈ TT, w.before args s = true := fun w h => atoms_spec (ws := Cond.code yX4_bodyBytes cX4_bodyBytes 7 (some .int) :: TT) B.pre w (List.mem_cons_of_mem _ h)
  have hown : s.vm.findClass RX4 = some m.cls := findClass_of_methodNamed B.named
  have hlocks := B.notSynchronized
  replace hW := Wd_self (sz := s.heap.size) hW
  generalize hAe : Am Y s.heap.size = A at hW hC ⊢
  have hA : ∀ q : Nat, s.heap.size ≤ q → A q := fun q h => by rw [← hAe]; exact Or.inr h
  clear hAe
  have hS : va_S A s.heap s.heap [] := va_S.rf
  obtain ⟨ls, hE, hl⟩ := gm_entry m [.int v0, .int v1, .int v2, .int v3] (n := 7) hargs (Nat.le_of_ble_eq_true rfl)
  rw [hE]
  have hl : lv_has ls 7 [(0, .int v0), (1, .int v1), (2, .int v2), (3, .int v3)] := hl
  show W p l e rm_X4_bodyBytes s m args below meth c s.heap [] 0 0 (MQ below (va_Qi Kn (BG D cy A Y) A) args s 0 0 A) (F0 m 0 ls [])
  unfold f_X4_bodyBytes at hf
  refine lv_iload_n hx hb dX4_bodyBytes_0 rfl (lv_at hl 0 rfl) ?_
  refine lv_i2l hx hb dX4_bodyBytes_1 rfl ?_
  refine gm_ci (va_runS (As := [.long v0.toInt64]) (rest := []) ⟨hx, hb, hml, hown, hts⟩ (m_X1_varintBytes l D cy tq _ Y _ _ _) (va_cwS 1 hts (good_S kw_506 kw_507 kw_17 kw_508) rfl rfl rfl (by decide +kernel) ⟨Nat.le_of_ble_eq_true rfl, Nat.le_of_ble_eq_true rfl⟩) (gm_preS hK hW hC hS hA hf) rfl rfl hl.1 rfl (lv_room (Nat.le_of_ble_eq_true rfl)) dX4_bodyBytes_2 ⟨Nat.le_of_ble_eq_true rfl, Nat.le_of_ble_eq_true rfl⟩) hW hS hA (fun r2 M1 H locs hW hS hf => ?_)
  refine lv_iload_n hx hb dX4_bodyBytes_5 rfl (lv_at hl 1 rfl) ?_
  refine lv_i2l hx hb dX4_bodyBytes_6 rfl ?_
  refine gm_ci (va_runS (As := [.long v1.toInt64]) (rest := [.int r2]) ⟨hx, hb, hml, hown, hts⟩ (m_X1_varintBytes l D cy tq _ Y _ _ _) (va_cwS 1 hts (good_S kw_506 kw_507 kw_17 kw_508) rfl rfl rfl (by decide +kernel) ⟨Nat.le_of_ble_eq_true rfl, Nat.le_of_ble_eq_true rfl⟩) (gm_preS hK hW hC hS hA hf) rfl rfl hl.1 rfl (lv_room (Nat.le_of_ble_eq_true rfl)) dX4_bodyBytes_7 ⟨Nat.le_of_ble_eq_true rfl, Nat.le_of_ble_eq_true rfl⟩) hW hS hA (fun r4 M3 H locs hW hS hf => ?_)
  refine lv_iadd hx hb dX4_bodyBytes_10 ?_
  refine lv_topi (fun x5 ex5 => ?_)
  replace hf := hf x5 ex5
  refine lv_istore (lv' := [(4, .int x5), (0, .int v0), (1, .int v1), (2, .int v2), (3, .int v3)]) hx hb dX4_bodyBytes_11 hl (by decide) rfl (fun ls hl => ?_)
  refine lv_iload_n hx hb dX4_bodyBytes_13 rfl (lv_at hl 3 rfl) ?_
  refine lv_i2l hx hb dX4_bodyBytes_14 rfl ?_
  refine gm_ci (va_runS (As := [.long v2.toInt64]) (rest := []) ⟨hx, hb, hml, hown, hts⟩ (m_X1_varintBytes l D cy tq _ Y _ _ _) (va_cwS 1 hts (good_S kw_506 kw_507 kw_17 kw_508) rfl rfl rfl (by decide +kernel) ⟨Nat.le_of_ble_eq_true rfl, Nat.le_of_ble_eq_true rfl⟩) (gm_preS hK hW hC hS hA hf) rfl rfl hl.1 rfl (lv_room (Nat.le_of_ble_eq_true rfl)) dX4_bodyBytes_15 ⟨Nat.le_of_ble_eq_true rfl, Nat.le_of_ble_eq_true rfl⟩) hW hS hA (fun r7 M6 H locs hW hS hf => ?_)
  refine lv_iload_n hx hb dX4_bodyBytes_18 rfl (lv_at hl 3 rfl) ?_
  refine lv_iconst (v := 0) hx hb dX4_bodyBytes_19 (by decide +kernel) ?_
  refine va_mmax hx hb (by rw [hml]; exact hl.1.symm) hown (hts _ kw_512) (hts _ kw_134) (hts _ kw_6) (hts _ kmath_maxI) (Nat.le_of_ble_eq_true rfl) (Nat.le_of_ble_eq_true rfl) (Nat.zero_le _) (Nat.zero_le _) dX4_bodyBytes_20 ?_
  refine lv_iadd hx hb dX4_bodyBytes_23 ?_
  refine lv_topi (fun x8 ex8 => ?_)
  replace hf := hf x8 ex8
  refine lv_istore (lv' := [(5, .int x8), (4, .int x5), (0, .int v0), (1, .int v1), (2, .int v2), (3, .int v3)]) hx hb dX4_bodyBytes_24 hl (by decide) rfl (fun ls hl => ?_)
  refine lv_iload_n hx hb dX4_bodyBytes_26 rfl (lv_at hl 5 rfl) ?_
  refine lv_i2l hx hb dX4_bodyBytes_27 rfl ?_
  refine gm_ci (va_runS (As := [.long v3.toInt64]) (rest := []) ⟨hx, hb, hml, hown, hts⟩ (m_X1_varintBytes l D cy tq _ Y _ _ _) (va_cwS 1 hts (good_S kw_506 kw_507 kw_17 kw_508) rfl rfl rfl (by decide +kernel) ⟨Nat.le_of_ble_eq_true rfl, Nat.le_of_ble_eq_true rfl⟩) (gm_preS hK hW hC hS hA hf) rfl rfl hl.1 rfl (lv_room (Nat.le_of_ble_eq_true rfl)) dX4_bodyBytes_28 ⟨Nat.le_of_ble_eq_true rfl, Nat.le_of_ble_eq_true rfl⟩) hW hS hA (fun r10 M9 H locs hW hS hf => ?_)
  refine lv_iload_n hx hb dX4_bodyBytes_31 rfl (lv_at hl 5 rfl) ?_
  refine lv_iconst (v := 0) hx hb dX4_bodyBytes_32 (by decide +kernel) ?_
  refine va_mmax hx hb (by rw [hml]; exact hl.1.symm) hown (hts _ kw_512) (hts _ kw_134) (hts _ kw_6) (hts _ kmath_maxI) (Nat.le_of_ble_eq_true rfl) (Nat.le_of_ble_eq_true rfl) (Nat.zero_le _) (Nat.zero_le _) dX4_bodyBytes_33 ?_
  refine lv_iadd hx hb dX4_bodyBytes_36 ?_
  refine lv_topi (fun x11 ex11 => ?_)
  replace hf := hf x11 ex11
  refine lv_istore (lv' := [(6, .int x11), (5, .int x8), (4, .int x5), (0, .int v0), (1, .int v1), (2, .int v2), (3, .int v3)]) hx hb dX4_bodyBytes_37 hl (by decide) rfl (fun ls hl => ?_)
  refine lv_iconst (v := 1) hx hb dX4_bodyBytes_39 (by decide +kernel) ?_
  refine lv_iload hx hb dX4_bodyBytes_40 (lv_at hl 2 rfl) ?_
  refine lv_iadd hx hb dX4_bodyBytes_42 ?_
  refine lv_iload hx hb dX4_bodyBytes_43 (lv_at hl 1 rfl) ?_
  refine lv_iadd hx hb dX4_bodyBytes_45 ?_
  refine lv_iload hx hb dX4_bodyBytes_46 (lv_at hl 0 rfl) ?_
  refine lv_iadd hx hb dX4_bodyBytes_48 ?_
  refine lv_iconst (v := 1) hx hb dX4_bodyBytes_49 (by decide +kernel) ?_
  refine lv_iadd hx hb dX4_bodyBytes_50 ?_
  exact gm_iret hx hb hr hlocks hW hS hf dX4_bodyBytes_51

abbrev rm_X4_hasRoom : Room := { frames := 5, cells := 0, slots := 0, locals := 152 }
def f_X4_hasRoom_81 (Y : Ly) (Kn : Int32 → Mm → Prop) (M6 : Mm) (y8 : Int32) : Prop :=
  bz y8 ∧ Kn y8 M6
def L_X4_hasRoom_23 (Y : Ly) (v0 : Nat) (v1 : Int32) (v2 : Int32) (v3 : Int32) (v4 : Int32) (Kn : Int32 → Mm → Prop) (x4 : Int32) (x5 : Int32) (M6 : Mm) (again23 : Int32 → Int32 → Mm → Prop) : Prop :=
  (v1 ≤ x5 → ((16000 < x4 → (f_X4_hasRoom_81 Y Kn M6 0)) ∧ (¬ (16000 < x4) → (f_X4_hasRoom_81 Y Kn M6 1)))) ∧ (¬ (v1 ≤ x5) → (f_X4_bodyBytes Y (v4 + x5) ((mI M6 v0 2) + x5) v2 v3 M6 (fun r11 M10 => (f_X1_varintBytes Y r11.toInt64 M10 (fun r13 M12 => (∀ x14 : Int32, x14 = x4 + (r13 + r11) → (∀ x15 : Int32, x15 = x5 + 1 → (again23 x14 x15 M12))))))))
def f_X4_hasRoom (Y : Ly) (v0 : Nat) (v1 : Int32) (v2 : Int32) (v3 : Int32) (v4 : Int32) (M : Mm) (Kn : Int32 → Mm → Prop) : Prop :=
  yK Y v0 = 4 ∧ ((((mI M v0 2) + v1) ≤ 1000 → (∀ x3 : Int32, x3 = mI M v0 1 → (∃ n, LOOP3 (L_X4_hasRoom_23 Y v0 v1 v2 v3 v4 Kn) n x3 0 M))) ∧ (¬ (((mI M v0 2) + v1) ≤ 1000) → (bz 0 ∧ Kn 0 M)))
set_option maxHeartbeats 4000000 in
set_option maxRecDepth 100000 in
theorem m_X4_hasRoom (l : Launch) (D : va_G) (cy : Cy) (tq sz : Nat) (Y : Ly) (v0 : Nat) (v1 : Int32) (v2 : Int32) (v3 : Int32) (v4 : Int32) (M : Mm) (Kn : Int32 → Mm → Prop) : Met l yX4_hasRoom (Cond.code yX4_hasRoom cX4_hasRoom 8 (some .boolean) :: TT) rm_X4_hasRoom (PcG D cy tq [.ref v0, .int v1, .int v2, .int v3, .int v4] sz Y M (f_X4_hasRoom Y v0 v1 v2 v3 v4 M Kn)) (va_Qi Kn (BG D cy (Am Y sz) Y) (Am Y sz)) 0 0 (Am Y sz) := by
  refine Met.ofW (cc := cX4_hasRoom) (maxL := 8) (ret := (some .boolean)) (by decide) rfl ?_
  intro p e s m args below meth c s₁ B hml hv
  obtain ⟨hargs, hsz, hW, hK, hC, hf⟩ := hv
  subst hsz
  have hx := B.exec
  have hb := B.bytes
  have hr := B.returns
  have hts : ∀ w ∈ TT, w.before args s = true := fun w h => atoms_spec (ws := Cond.code yX4_hasRoom cX4_hasRoom 8 (some .boolean) :: TT) B.pre w (List.mem_cons_of_mem _ h)
  have hown : s.vm.findClass RX4 = some m.cls := findClass_of_methodNamed B.named
  have hlocks := B.notSynchronized
  replace hW := Wd_self (sz := s.heap.size) hW
  generalize hAe : Am Y s.heap.size = A at hW hC ⊢
  have hA : ∀ q : Nat, s.heap.size ≤ q → A q := fun q h => by rw [← hAe]; exact Or.inr h
  clear hAe
  have hS : va_S A s.heap s.heap [] := va_S.rf
  obtain ⟨ls, hE, hl⟩ := gm_entry m [.ref v0, .int v1, .int v2, .int v3, .int v4] (n := 8) hargs (Nat.le_of_ble_eq_true rfl)
  rw [hE]
  have hl : lv_has ls 8 [(0, .ref v0), (1, .int v1), (2, .int v2), (3, .int v3), (4, .int v4)] := hl
  show W p l e rm_X4_hasRoom s m args below meth c s.heap [] 0 0 (MQ below (va_Qi Kn (BG D cy A Y) A) args s 0 0 A) (F0 m 0 ls [])
  unfold f_X4_hasRoom at hf
  refine lv_aload_n hx hb dX4_hasRoom_0 rfl (lv_at hl 0 rfl) ?_
  obtain ⟨k1, hf⟩ := hf
  refine gm_getI (C := RX4) (T := TX4) (N := 4) (j := 2) hx hb hts inT_4 hown hK hW k1 (by decide) rfl (by decide) rfl (hts _ kw_47) rfl dX4_hasRoom_1 ?_
  refine lv_iload_n hx hb dX4_hasRoom_4 rfl (lv_at hl 1 rfl) ?_
  refine lv_iadd hx hb dX4_hasRoom_5 ?_
  refine lv_sipush (v := 1000) hx hb dX4_hasRoom_6 (by decide +kernel) ?_
  refine lv_icmp_le (tgt := 14) hx hb dX4_hasRoom_9 (by decide) (fun c2 => ?_) (fun c2 => ?_)
  · replace hf := hf.1 c2
    refine lv_aload_n hx hb dX4_hasRoom_14 rfl (lv_at hl 0 rfl) ?_
    refine gm_getI (C := RX4) (T := TX4) (N := 4) (j := 1) hx hb hts inT_4 hown hK hW k1 (by decide) rfl (by decide) rfl (hts _ kw_45) rfl dX4_hasRoom_15 ?_
    refine lv_topi (fun x3 ex3 => ?_)
    replace hf := hf x3 ex3
    refine lv_istore (lv' := [(5, .int x3), (0, .ref v0), (1, .int v1), (2, .int v2), (3, .int v3), (4, .int v4)]) hx hb dX4_hasRoom_18 hl (by decide) rfl (fun ls hl => ?_)
    refine lv_iconst (v := 0) hx hb dX4_hasRoom_20 (by decide +kernel) ?_
    refine lv_istore (lv' := [(6, .int 0), (5, .int x3), (0, .ref v0), (1, .int v1), (2, .int v2), (3, .int v3), (4, .int v4)]) hx hb dX4_hasRoom_21 hl (by decide) rfl (fun ls hl => ?_)
    obtain ⟨n23, hf⟩ := hf
    have lp23 : ∀ (n23 : Nat) (x4 : Int32) (x5 : Int32) (M6 : Mm) (H : Heap) (locs : List Loc) (ls : Array Slot), lv_has ls 8 [(0, .ref v0), (1, .int v1), (2, .int v2), (3, .int v3), (4, .int v4), (5, .int x4), (6, .int x5)] → Wd D cy A Y M6 H → va_S A s.heap H locs → LOOP3 (L_X4_hasRoom_23 Y v0 v1 v2 v3 v4 Kn) n23 x4 x5 M6 → W p l e rm_X4_hasRoom s m args below meth c H locs 0 0 (MQ below (va_Qi Kn (BG D cy A Y) A) args s 0 0 A) (F0 m 23 ls []) := by
      intro n23
      induction n23 with
      | zero => intro x4 x5 M6 H locs ls hl hW hS hf; exact hf.elim
      | succ n23 ih23 =>
        intro x4 x5 M6 H locs ls hl hW hS hf
        replace hf : L_X4_hasRoom_23 Y v0 v1 v2 v3 v4 Kn x4 x5 M6 (LOOP3 (L_X4_hasRoom_23 Y v0 v1 v2 v3 v4 Kn) n23) := hf
        unfold L_X4_hasRoom_23 at hf
        refine lv_iload hx hb dX4_hasRoom_23 (lv_at hl 6 rfl) ?_
        refine lv_iload_n hx hb dX4_hasRoom_25 rfl (lv_at hl 1 rfl) ?_
        refine lv_icmp_ge (tgt := 68) hx hb dX4_hasRoom_26 (by decide) (fun c7 => ?_) (fun c7 => ?_)
        · replace hf := hf.1 c7
          refine lv_iload hx hb dX4_hasRoom_68 (lv_at hl 5 rfl) ?_
          refine lv_sipush (v := 16000) hx hb dX4_hasRoom_70 (by decide +kernel) ?_
          have j81 : ∀ (y8 : Int32) (H : Heap) (locs : List Loc) (ls : Array Slot), lv_has ls 8 [] → Wd D cy A Y M6 H → va_S A s.heap H locs → f_X4_hasRoom_81 Y Kn M6 y8 → W p l e rm_X4_hasRoom s m args below meth c H locs 0 0 (MQ below (va_Qi Kn (BG D cy A Y) A) args s 0 0 A) (F0 m 81 ls [.int y8]) := by
            intro y8 H locs ls hl hW hS hf
            unfold f_X4_hasRoom_81 at hf
            exact gm_zret hx hb hr hlocks hW hS hf.1 hf.2 dX4_hasRoom_81
          refine lv_icmp_gt (tgt := 80) hx hb dX4_hasRoom_73 (by decide) (fun c9 => ?_) (fun c9 => ?_)
          · replace hf := hf.1 c9
            refine lv_iconst (v := 0) hx hb dX4_hasRoom_80 (by decide +kernel) ?_
            exact j81 _ _ _ _ (lv_sub hl [] rfl) hW hS hf
          · replace hf := hf.2 c9
            refine lv_iconst (v := 1) hx hb dX4_hasRoom_76 (by decide +kernel) ?_
            refine lv_goto (tgt := 81) hx hb dX4_hasRoom_77 (by decide) ?_
            exact j81 _ _ _ _ (lv_sub hl [] rfl) hW hS hf
        · replace hf := hf.2 c7
          refine lv_iload hx hb dX4_hasRoom_29 (lv_at hl 4 rfl) ?_
          refine lv_iload hx hb dX4_hasRoom_31 (lv_at hl 6 rfl) ?_
          refine lv_iadd hx hb dX4_hasRoom_33 ?_
          refine lv_aload_n hx hb dX4_hasRoom_34 rfl (lv_at hl 0 rfl) ?_
          refine gm_getI (C := RX4) (T := TX4) (N := 4) (j := 2) hx hb hts inT_4 hown hK hW k1 (by decide) rfl (by decide) rfl (hts _ kw_47) rfl dX4_hasRoom_35 ?_
          refine lv_iload hx hb dX4_hasRoom_38 (lv_at hl 6 rfl) ?_
          refine lv_iadd hx hb dX4_hasRoom_40 ?_
          refine lv_iload_n hx hb dX4_hasRoom_41 rfl (lv_at hl 2 rfl) ?_
          refine lv_iload_n hx hb dX4_hasRoom_42 rfl (lv_at hl 3 rfl) ?_
          refine gm_ci (va_runS (As := [.int (v4 + x5), .int ((mI M6 v0 2) + x5), .int v2, .int v3]) (rest := []) ⟨hx, hb, hml, hown, hts⟩ (m_X4_bodyBytes l D cy tq _ Y _ _ _ _ _ _) (va_cwS 4 hts (good_S kw_503 kw_504 kw_2 kw_505) rfl rfl rfl (by decide +kernel) ⟨Nat.le_of_ble_eq_true rfl, Nat.le_of_ble_eq_true rfl⟩) (gm_preS hK hW hC hS hA hf) rfl rfl hl.1 rfl (lv_room (Nat.le_of_ble_eq_true rfl)) dX4_hasRoom_43 ⟨Nat.le_of_ble_eq_true rfl, Nat.le_of_ble_eq_true rfl⟩) hW hS hA (fun r11 M10 H locs hW hS hf => ?_)
          refine lv_istore (lv' := [(7, .int r11), (0, .ref v0), (1, .int v1), (2, .int v2), (3, .int v3), (4, .int v4), (5, .int x4), (6, .int x5)]) hx hb dX4_hasRoom_46 hl (by decide) rfl (fun ls hl => ?_)
          refine lv_iload hx hb dX4_hasRoom_48 (lv_at hl 6 rfl) ?_
          refine lv_iload hx hb dX4_hasRoom_50 (lv_at hl 0 rfl) ?_
          refine lv_i2l hx hb dX4_hasRoom_52 rfl ?_
          refine gm_ci (va_runS (As := [.long r11.toInt64]) (rest := [.int x4]) ⟨hx, hb, hml, hown, hts⟩ (m_X1_varintBytes l D cy tq _ Y _ _ _) (va_cwS 1 hts (good_S kw_506 kw_507 kw_17 kw_508) rfl rfl rfl (by decide +kernel) ⟨Nat.le_of_ble_eq_true rfl, Nat.le_of_ble_eq_true rfl⟩) (gm_preS hK hW hC hS hA hf) rfl rfl hl.1 rfl (lv_room (Nat.le_of_ble_eq_true rfl)) dX4_hasRoom_53 ⟨Nat.le_of_ble_eq_true rfl, Nat.le_of_ble_eq_true rfl⟩) hW hS hA (fun r13 M12 H locs hW hS hf => ?_)
          refine lv_iload hx hb dX4_hasRoom_56 (lv_at hl 0 rfl) ?_
          refine lv_iadd hx hb dX4_hasRoom_58 ?_
          refine lv_iadd hx hb dX4_hasRoom_59 ?_
          refine lv_topi (fun x14 ex14 => ?_)
          replace hf := hf x14 ex14
          refine lv_istore (lv' := [(5, .int x14), (7, .int r11), (0, .ref v0), (1, .int v1), (2, .int v2), (3, .int v3), (4, .int v4), (6, .int x5)]) hx hb dX4_hasRoom_60 hl (by decide) rfl (fun ls hl => ?_)
          obtain ⟨x15, ex15⟩ : ∃ y : Int32, y = x5 + 1 := ⟨_, rfl⟩
          replace hf := hf x15 ex15
          refine lv_iinc (v := x15) (lv' := [(6, .int x15), (5, .int x14), (7, .int r11), (0, .ref v0), (1, .int v1), (2, .int v2), (3, .int v3), (4, .int v4)]) hx hb dX4_hasRoom_62 hl (k := 7) rfl (by rw [ex15]; rfl) (by decide) rfl (fun ls hl => ?_)
          refine lv_goto (tgt := 23) hx hb dX4_hasRoom_65 (by decide) ?_
          exact ih23 _ _ _ _ _ _ (lv_sub hl [3, 4, 5, 6, 7, 1, 0] rfl) hW hS hf
    exact lp23 n23 _ _ _ _ _ _ (lv_sub hl [2, 3, 4, 5, 6, 1, 0] rfl) hW hS hf
  · replace hf := hf.2 c2
    refine lv_iconst (v := 0) hx hb dX4_hasRoom_12 (by decide +kernel) ?_
    exact gm_zret hx hb hr hlocks hW hS hf.1 hf.2 dX4_hasRoom_13

abbrev rm_X4_add : Room := { frames := 5, cells := 0, slots := 0, locals := 153 }
def L_X4_add_113 (Y : Ly) (v0 : Nat) (v4 : Int64) (v6 : Int32) (v7 : Int32) (Kn : Mm → Prop) (r24 : Int32) (x25 : Int32) (M26 : Mm) (again113 : Int32 → Mm → Prop) : Prop :=
  (v6 ≤ x25 → (∀ x28 : Int32, x28 = r24 + (if v6 < 0 then 0 else v6) → (∃ b29 : Nat, mR M26 v0 0 = some b29 ∧ (yK Y b29 = 100 ∧ (vp_in x28 (yN Y b29) ∧ (∀ M32 : Mm, M32 = sI M26 b29 (m1 (mI M26 b29) x28.toNatClampNeg ((0 : Int32).toInt8.toInt32)) → (∀ M33 : Mm, M33 = sI M32 v0 (m1 (mI M32 v0) 1 (x28 + 1)) → (∀ M34 : Mm, M34 = sI M33 v0 (m1 (mI M33 v0) 2 ((mI M33 v0 2) + 1)) → (∀ M35 : Mm, M35 = sI M34 v0 (m1 (mI M34 v0) 3 (if (mI M34 v0 3) < v7 then v7 else (mI M34 v0 3))) → (Kn M35)))))))))) ∧ (¬ (v6 ≤ x25) → (∃ b36 : Nat, mR M26 v0 0 = some b36 ∧ (yK Y b36 = 100 ∧ (vp_in (r24 + x25) (yN Y b36) ∧ (∀ M40 : Mm, M40 = sI M26 b36 (m1 (mI M26 b36) (r24 + x25).toNatClampNeg ((((v4 >>> ((8 * (x25 - x25 / 8 * 8)).toInt64 &&& 63)).toInt32).toInt8.toInt32).toInt8.toInt32)) → (∀ x41 : Int32, x41 = x25 + 1 → (again113 x41 M40)))))))
def f_X4_add (Y : Ly) (v0 : Nat) (v1 : Int64) (v3 : Int32) (v4 : Int64) (v6 : Int32) (v7 : Int32) (M : Mm) (Kn : Mm → Prop) : Prop :=
  yK Y v0 = 4 ∧ (∃ b2 : Nat, mR M v0 0 = some b2 ∧ (f_X4_bodyBytes Y v7 (mI M v0 2) v3 v6 M (fun r4 M3 => (f_X1_putVarint Y b2 (mI M v0 1) r4.toInt64 M3 (fun r6 M5 => (∃ b7 : Nat, mR M5 v0 0 = some b7 ∧ (yK Y b7 = 100 ∧ (vp_in r6 (yN Y b7) ∧ (∀ M10 : Mm, M10 = sI M5 b7 (m1 (mI M5 b7) r6.toNatClampNeg ((0 : Int32).toInt8.toInt32)) → (∃ b11 : Nat, mR M10 v0 0 = some b11 ∧ (f_X1_putVarint Y b11 (r6 + 1) v7.toInt64 M10 (fun r13 M12 => (∃ b14 : Nat, mR M12 v0 0 = some b14 ∧ (f_X1_putVarint Y b14 r13 ((mI M12 v0 2).toInt64) M12 (fun r16 M15 => (∃ b17 : Nat, mR M15 v0 0 = some b17 ∧ (f_X1_putVarint Y b17 r16 v3.toInt64 M15 (fun r19 M18 => (∃ b20 : Nat, mR M18 v0 0 = some b20 ∧ (f_X1_put Y b20 r19 v3 v1 M18 (fun M21 => (∃ b22 : Nat, mR M21 v0 0 = some b22 ∧ (f_X1_putVarint Y b22 (r19 + (if v3 < 0 then 0 else v3)) v6.toInt64 M21 (fun r24 M23 => (∃ n, LOOP2 (L_X4_add_113 Y v0 v4 v6 v7 Kn r24) n 0 M23)))))))))))))))))))))))))
set_option maxHeartbeats 4000000 in
set_option maxRecDepth 100000 in
theorem m_X4_add (l : Launch) (D : va_G) (cy : Cy) (tq sz : Nat) (Y : Ly) (v0 : Nat) (v1 : Int64) (v3 : Int32) (v4 : Int64) (v6 : Int32) (v7 : Int32) (M : Mm) (Kn : Mm → Prop) : Met l yX4_add (Cond.code yX4_add cX4_add 10 none :: TT) rm_X4_add (PcG D cy tq [.ref v0, .long v1, .int v3, .long v4, .int v6, .int v7] sz Y M (f_X4_add Y v0 v1 v3 v4 v6 v7 M Kn)) (va_Qv Kn (BG D cy (Am Y sz) Y) (Am Y sz)) 0 0 (Am Y sz) := by
  refine Met.ofW (cc := cX4_add) (maxL := 10) (ret := none) (by decide) rfl ?_
  intro p e s m args below meth c s₁ B hml hv
  obtain ⟨hargs, hsz, hW, hK, hC, hf⟩ := hv
  subst hsz
  have hx := B.exec
  have hb := B.bytes
  have hr := B.returns
  have hts : ∀ w ∈ TT, w.before args s = true := fun w h => atoms_spec (ws := Cond.code yX4_add cX4_add 10 none :: TT) B.pre w (List.mem_cons_of_mem _ h)
  have hown : s.vm.findClass RX4 = some m.cls := findClass_of_methodNamed B.named
  have hlocks := B.notSynchronized
  replace hW := Wd_self (sz := s.heap.size) hW
  generalize hAe : Am Y s.heap.size = A at hW hC ⊢
  have hA : ∀ q : Nat, s.heap.size ≤ q → A q := fun q h => by rw [← hAe]; exact Or.inr h
  clear hAe
  have hS : va_S A s.heap s.heap [] := va_S.rf
  obtain ⟨ls, hE, hl⟩ := gm_entry m [.ref v0, .long v1, .int v3, .long v4, .int v6, .int v7] (n := 10) hargs (Nat.le_of_ble_eq_true rfl)
  rw [hE]
  have hl : lv_has ls 10 [(0, .ref v0), (1, .long v1), (3, .int v3), (4, .long v4), (6, .int v6), (7, .int v7)] := hl
  show W p l e rm_X4_add s m args below meth c s.heap [] 0 0 (MQ below (va_Qv Kn (BG D cy A Y) A) args s 0 0 A) (F0 m 0 ls [])
  unfold f_X4_add at hf
  refine lv_aload_n hx hb dX4_add_0 rfl (lv_at hl 0 rfl) ?_
  obtain ⟨k1, hf⟩ := hf
  obtain ⟨b2, hb2, hf⟩ := hf
  refine gm_getR (C := RX4) (T := TX4) (N := 4) (j := 0) hx hb hts inT_4 hown hK hW k1 (by decide) rfl (by decide) rfl (hts _ kw_43) rfl dX4_add_1 hb2 ?_
  refine lv_aload_n hx hb dX4_add_4 rfl (lv_at hl 0 rfl) ?_
  refine gm_getI (C := RX4) (T := TX4) (N := 4) (j := 1) hx hb hts inT_4 hown hK hW k1 (by decide) rfl (by decide) rfl (hts _ kw_45) rfl dX4_add_5 ?_
  refine lv_iload hx hb dX4_add_8 (lv_at hl 5 rfl) ?_
  refine lv_aload_n hx hb dX4_add_10 rfl (lv_at hl 0 rfl) ?_
  refine gm_getI (C := RX4) (T := TX4) (N := 4) (j := 2) hx hb hts inT_4 hown hK hW k1 (by decide) rfl (by decide) rfl (hts _ kw_47) rfl dX4_add_11 ?_
  refine lv_iload_n hx hb dX4_add_14 rfl (lv_at hl 2 rfl) ?_
  refine lv_iload hx hb dX4_add_15 (lv_at hl 4 rfl) ?_
  refine gm_ci (va_runS (As := [.int v7, .int (mI M v0 2), .int v3, .int v6]) (rest := [.int (mI M v0 1), .ref b2]) ⟨hx, hb, hml, hown, hts⟩ (m_X4_bodyBytes l D cy tq _ Y _ _ _ _ _ _) (va_cwS 4 hts (good_S kw_503 kw_504 kw_2 kw_505) rfl rfl rfl (by decide +kernel) ⟨Nat.le_of_ble_eq_true rfl, Nat.le_of_ble_eq_true rfl⟩) (gm_preS hK hW hC hS hA hf) rfl rfl hl.1 rfl (lv_room (Nat.le_of_ble_eq_true rfl)) dX4_add_17 ⟨Nat.le_of_ble_eq_true rfl, Nat.le_of_ble_eq_true rfl⟩) hW hS hA (fun r4 M3 H locs hW hS hf => ?_)
  refine lv_i2l hx hb dX4_add_20 rfl ?_
  refine gm_ci (va_runS (As := [.ref b2, .int (mI M v0 1), .long r4.toInt64]) (rest := []) ⟨hx, hb, hml, hown, hts⟩ (m_X1_putVarint l D cy tq _ Y _ _ _ _ _) (va_cwS 3 hts (good_S kw_517 kw_518 kw_17 kw_519) rfl rfl rfl (by decide +kernel) ⟨Nat.le_of_ble_eq_true rfl, Nat.le_of_ble_eq_true rfl⟩) (gm_preS hK hW hC hS hA hf) rfl rfl hl.1 rfl (lv_room (Nat.le_of_ble_eq_true rfl)) dX4_add_21 ⟨Nat.le_of_ble_eq_true rfl, Nat.le_of_ble_eq_true rfl⟩) hW hS hA (fun r6 M5 H locs hW hS hf => ?_)
  refine lv_istore (lv' := [(8, .int r6), (0, .ref v0), (1, .long v1), (3, .int v3), (4, .long v4), (6, .int v6), (7, .int v7)]) hx hb dX4_add_24 hl (by decide) rfl (fun ls hl => ?_)
  refine lv_aload_n hx hb dX4_add_26 rfl (lv_at hl 1 rfl) ?_
  obtain ⟨b7, hb7, hf⟩ := hf
  refine gm_getR (C := RX4) (T := TX4) (N := 4) (j := 0) hx hb hts inT_4 hown hK hW k1 (by decide) rfl (by decide) rfl (hts _ kw_43) rfl dX4_add_27 hb7 ?_
  refine lv_iload hx hb dX4_add_30 (lv_at hl 0 rfl) ?_
  refine lv_iconst (v := 0) hx hb dX4_add_32 (by decide +kernel) ?_
  obtain ⟨k8, hf⟩ := hf
  obtain ⟨h9, hf⟩ := hf
  refine gm_bast hx hb hK hW hS k8 h9 dX4_add_33 (fun H locs M10 eM10 hW hS => ?_)
  replace hf := hf M10 eM10
  refine lv_aload_n hx hb dX4_add_34 rfl (lv_at hl 1 rfl) ?_
  obtain ⟨b11, hb11, hf⟩ := hf
  refine gm_getR (C := RX4) (T := TX4) (N := 4) (j := 0) hx hb hts inT_4 hown hK hW k1 (by decide) rfl (by decide) rfl (hts _ kw_43) rfl dX4_add_35 hb11 ?_
  refine lv_iload hx hb dX4_add_38 (lv_at hl 0 rfl) ?_
  refine lv_iconst (v := 1) hx hb dX4_add_40 (by decide +kernel) ?_
  refine lv_iadd hx hb dX4_add_41 ?_
  refine lv_iload hx hb dX4_add_42 (lv_at hl 6 rfl) ?_
  refine lv_i2l hx hb dX4_add_44 rfl ?_
  refine gm_ci (va_runS (As := [.ref b11, .int (r6 + 1), .long v7.toInt64]) (rest := []) ⟨hx, hb, hml, hown, hts⟩ (m_X1_putVarint l D cy tq _ Y _ _ _ _ _) (va_cwS 3 hts (good_S kw_517 kw_518 kw_17 kw_519) rfl rfl rfl (by decide +kernel) ⟨Nat.le_of_ble_eq_true rfl, Nat.le_of_ble_eq_true rfl⟩) (gm_preS hK hW hC hS hA hf) rfl rfl hl.1 rfl (lv_room (Nat.le_of_ble_eq_true rfl)) dX4_add_45 ⟨Nat.le_of_ble_eq_true rfl, Nat.le_of_ble_eq_true rfl⟩) hW hS hA (fun r13 M12 H locs hW hS hf => ?_)
  refine lv_istore (lv' := [(8, .int r13), (0, .ref v0), (1, .long v1), (3, .int v3), (4, .long v4), (6, .int v6), (7, .int v7)]) hx hb dX4_add_48 hl (by decide) rfl (fun ls hl => ?_)
  refine lv_aload_n hx hb dX4_add_50 rfl (lv_at hl 1 rfl) ?_
  obtain ⟨b14, hb14, hf⟩ := hf
  refine gm_getR (C := RX4) (T := TX4) (N := 4) (j := 0) hx hb hts inT_4 hown hK hW k1 (by decide) rfl (by decide) rfl (hts _ kw_43) rfl dX4_add_51 hb14 ?_
  refine lv_iload hx hb dX4_add_54 (lv_at hl 0 rfl) ?_
  refine lv_aload_n hx hb dX4_add_56 rfl (lv_at hl 1 rfl) ?_
  refine gm_getI (C := RX4) (T := TX4) (N := 4) (j := 2) hx hb hts inT_4 hown hK hW k1 (by decide) rfl (by decide) rfl (hts _ kw_47) rfl dX4_add_57 ?_
  refine lv_i2l hx hb dX4_add_60 rfl ?_
  refine gm_ci (va_runS (As := [.ref b14, .int r13, .long ((mI M12 v0 2).toInt64)]) (rest := []) ⟨hx, hb, hml, hown, hts⟩ (m_X1_putVarint l D cy tq _ Y _ _ _ _ _) (va_cwS 3 hts (good_S kw_517 kw_518 kw_17 kw_519) rfl rfl rfl (by decide +kernel) ⟨Nat.le_of_ble_eq_true rfl, Nat.le_of_ble_eq_true rfl⟩) (gm_preS hK hW hC hS hA hf) rfl rfl hl.1 rfl (lv_room (Nat.le_of_ble_eq_true rfl)) dX4_add_61 ⟨Nat.le_of_ble_eq_true rfl, Nat.le_of_ble_eq_true rfl⟩) hW hS hA (fun r16 M15 H locs hW hS hf => ?_)
  refine lv_istore (lv' := [(8, .int r16), (0, .ref v0), (1, .long v1), (3, .int v3), (4, .long v4), (6, .int v6), (7, .int v7)]) hx hb dX4_add_64 hl (by decide) rfl (fun ls hl => ?_)
  refine lv_aload_n hx hb dX4_add_66 rfl (lv_at hl 1 rfl) ?_
  obtain ⟨b17, hb17, hf⟩ := hf
  refine gm_getR (C := RX4) (T := TX4) (N := 4) (j := 0) hx hb hts inT_4 hown hK hW k1 (by decide) rfl (by decide) rfl (hts _ kw_43) rfl dX4_add_67 hb17 ?_
  refine lv_iload hx hb dX4_add_70 (lv_at hl 0 rfl) ?_
  refine lv_iload_n hx hb dX4_add_72 rfl (lv_at hl 3 rfl) ?_
  refine lv_i2l hx hb dX4_add_73 rfl ?_
  refine gm_ci (va_runS (As := [.ref b17, .int r16, .long v3.toInt64]) (rest := []) ⟨hx, hb, hml, hown, hts⟩ (m_X1_putVarint l D cy tq _ Y _ _ _ _ _) (va_cwS 3 hts (good_S kw_517 kw_518 kw_17 kw_519) rfl rfl rfl (by decide +kernel) ⟨Nat.le_of_ble_eq_true rfl, Nat.le_of_ble_eq_true rfl⟩) (gm_preS hK hW hC hS hA hf) rfl rfl hl.1 rfl (lv_room (Nat.le_of_ble_eq_true rfl)) dX4_add_74 ⟨Nat.le_of_ble_eq_true rfl, Nat.le_of_ble_eq_true rfl⟩) hW hS hA (fun r19 M18 H locs hW hS hf => ?_)
  refine lv_istore (lv' := [(8, .int r19), (0, .ref v0), (1, .long v1), (3, .int v3), (4, .long v4), (6, .int v6), (7, .int v7)]) hx hb dX4_add_77 hl (by decide) rfl (fun ls hl => ?_)
  refine lv_aload_n hx hb dX4_add_79 rfl (lv_at hl 1 rfl) ?_
  obtain ⟨b20, hb20, hf⟩ := hf
  refine gm_getR (C := RX4) (T := TX4) (N := 4) (j := 0) hx hb hts inT_4 hown hK hW k1 (by decide) rfl (by decide) rfl (hts _ kw_43) rfl dX4_add_80 hb20 ?_
  refine lv_iload hx hb dX4_add_83 (lv_at hl 0 rfl) ?_
  refine lv_iload_n hx hb dX4_add_85 rfl (lv_at hl 3 rfl) ?_
  refine lv_lload_n hx hb dX4_add_86 rfl (lv_at hl 2 rfl) ?_
  refine gm_cv (va_runS (As := [.ref b20, .int r19, .int v3, .long v1]) (rest := []) ⟨hx, hb, hml, hown, hts⟩ (m_X1_put l D cy tq _ Y _ _ _ _ _ _) (va_cwS 4 hts (good_S kw_523 kw_450 kw_17 kw_451) rfl rfl rfl (by decide +kernel) ⟨Nat.le_of_ble_eq_true rfl, Nat.le_of_ble_eq_true rfl⟩) (gm_preS hK hW hC hS hA hf) rfl rfl hl.1 rfl (lv_room (Nat.le_of_ble_eq_true rfl)) dX4_add_87 ⟨Nat.le_of_ble_eq_true rfl, Nat.le_of_ble_eq_true rfl⟩) hW hS hA (fun M21 H locs hW hS hf => ?_)
  refine lv_aload_n hx hb dX4_add_90 rfl (lv_at hl 1 rfl) ?_
  obtain ⟨b22, hb22, hf⟩ := hf
  refine gm_getR (C := RX4) (T := TX4) (N := 4) (j := 0) hx hb hts inT_4 hown hK hW k1 (by decide) rfl (by decide) rfl (hts _ kw_43) rfl dX4_add_91 hb22 ?_
  refine lv_iload hx hb dX4_add_94 (lv_at hl 0 rfl) ?_
  refine lv_iload_n hx hb dX4_add_96 rfl (lv_at hl 3 rfl) ?_
  refine lv_iconst (v := 0) hx hb dX4_add_97 (by decide +kernel) ?_
  refine va_mmax hx hb (by rw [hml]; exact hl.1.symm) hown (hts _ kw_512) (hts _ kw_134) (hts _ kw_6) (hts _ kmath_maxI) (Nat.le_of_ble_eq_true rfl) (Nat.le_of_ble_eq_true rfl) (Nat.zero_le _) (Nat.zero_le _) dX4_add_98 ?_
  refine lv_iadd hx hb dX4_add_101 ?_
  refine lv_iload hx hb dX4_add_102 (lv_at hl 5 rfl) ?_
  refine lv_i2l hx hb dX4_add_104 rfl ?_
  refine gm_ci (va_runS (As := [.ref b22, .int (r19 + (if v3 < 0 then 0 else v3)), .long v6.toInt64]) (rest := []) ⟨hx, hb, hml, hown, hts⟩ (m_X1_putVarint l D cy tq _ Y _ _ _ _ _) (va_cwS 3 hts (good_S kw_517 kw_518 kw_17 kw_519) rfl rfl rfl (by decide +kernel) ⟨Nat.le_of_ble_eq_true rfl, Nat.le_of_ble_eq_true rfl⟩) (gm_preS hK hW hC hS hA hf) rfl rfl hl.1 rfl (lv_room (Nat.le_of_ble_eq_true rfl)) dX4_add_105 ⟨Nat.le_of_ble_eq_true rfl, Nat.le_of_ble_eq_true rfl⟩) hW hS hA (fun r24 M23 H locs hW hS hf => ?_)
  refine lv_istore (lv' := [(8, .int r24), (0, .ref v0), (1, .long v1), (3, .int v3), (4, .long v4), (6, .int v6), (7, .int v7)]) hx hb dX4_add_108 hl (by decide) rfl (fun ls hl => ?_)
  refine lv_iconst (v := 0) hx hb dX4_add_110 (by decide +kernel) ?_
  refine lv_istore (lv' := [(9, .int 0), (8, .int r24), (0, .ref v0), (1, .long v1), (3, .int v3), (4, .long v4), (6, .int v6), (7, .int v7)]) hx hb dX4_add_111 hl (by decide) rfl (fun ls hl => ?_)
  obtain ⟨n113, hf⟩ := hf
  have lp113 : ∀ (n113 : Nat) (x25 : Int32) (M26 : Mm) (H : Heap) (locs : List Loc) (ls : Array Slot), lv_has ls 10 [(0, .ref v0), (4, .long v4), (6, .int v6), (7, .int v7), (8, .int r24), (9, .int x25)] → Wd D cy A Y M26 H → va_S A s.heap H locs → LOOP2 (L_X4_add_113 Y v0 v4 v6 v7 Kn r24) n113 x25 M26 → W p l e rm_X4_add s m args below meth c H locs 0 0 (MQ below (va_Qv Kn (BG D cy A Y) A) args s 0 0 A) (F0 m 113 ls []) := by
    intro n113
    induction n113 with
    | zero => intro x25 M26 H locs ls hl hW hS hf; exact hf.elim
    | succ n113 ih113 =>
      intro x25 M26 H locs ls hl hW hS hf
      replace hf : L_X4_add_113 Y v0 v4 v6 v7 Kn r24 x25 M26 (LOOP2 (L_X4_add_113 Y v0 v4 v6 v7 Kn r24) n113) := hf
      unfold L_X4_add_113 at hf
      refine lv_iload hx hb dX4_add_113 (lv_at hl 5 rfl) ?_
      refine lv_iload hx hb dX4_add_115 (lv_at hl 2 rfl) ?_
      refine lv_icmp_ge (tgt := 149) hx hb dX4_add_117 (by decide) (fun c27 => ?_) (fun c27 => ?_)
      · replace hf := hf.1 c27
        refine lv_iload hx hb dX4_add_149 (lv_at hl 4 rfl) ?_
        refine lv_iload hx hb dX4_add_151 (lv_at hl 2 rfl) ?_
        refine lv_iconst (v := 0) hx hb dX4_add_153 (by decide +kernel) ?_
        refine va_mmax hx hb (by rw [hml]; exact hl.1.symm) hown (hts _ kw_512) (hts _ kw_134) (hts _ kw_6) (hts _ kmath_maxI) (Nat.le_of_ble_eq_true rfl) (Nat.le_of_ble_eq_true rfl) (Nat.zero_le _) (Nat.zero_le _) dX4_add_154 ?_
        refine lv_iadd hx hb dX4_add_157 ?_
        refine lv_topi (fun x28 ex28 => ?_)
        replace hf := hf x28 ex28
        refine lv_istore (lv' := [(8, .int x28), (0, .ref v0), (4, .long v4), (6, .int v6), (7, .int v7), (9, .int x25)]) hx hb dX4_add_158 hl (by decide) rfl (fun ls hl => ?_)
        refine lv_aload_n hx hb dX4_add_160 rfl (lv_at hl 1 rfl) ?_
        obtain ⟨b29, hb29, hf⟩ := hf
        refine gm_getR (C := RX4) (T := TX4) (N := 4) (j := 0) hx hb hts inT_4 hown hK hW k1 (by decide) rfl (by decide) rfl (hts _ kw_43) rfl dX4_add_161 hb29 ?_
        refine lv_iload hx hb dX4_add_164 (lv_at hl 0 rfl) ?_
        refine lv_iconst (v := 0) hx hb dX4_add_166 (by decide +kernel) ?_
        obtain ⟨k30, hf⟩ := hf
        obtain ⟨h31, hf⟩ := hf
        refine gm_bast hx hb hK hW hS k30 h31 dX4_add_167 (fun H locs M32 eM32 hW hS => ?_)
        replace hf := hf M32 eM32
        refine lv_aload_n hx hb dX4_add_168 rfl (lv_at hl 1 rfl) ?_
        refine lv_iload hx hb dX4_add_169 (lv_at hl 0 rfl) ?_
        refine lv_iconst (v := 1) hx hb dX4_add_171 (by decide +kernel) ?_
        refine lv_iadd hx hb dX4_add_172 ?_
        refine gm_putI (C := RX4) (T := TX4) (N := 4) (j := 1) hx hb hts inT_4 tyX4 tyX4_ok nmX4 hown hK hW hS k1 (by decide) rfl (by decide) rfl (hts _ kw_45) rfl rfl rfl rfl dX4_add_173 (fun H locs M33 eM33 hW hS => ?_)
        replace hf := hf M33 eM33
        refine lv_aload_n hx hb dX4_add_176 rfl (lv_at hl 1 rfl) ?_
        refine lv_dup hx hb dX4_add_177 rfl ?_
        refine gm_getI (C := RX4) (T := TX4) (N := 4) (j := 2) hx hb hts inT_4 hown hK hW k1 (by decide) rfl (by decide) rfl (hts _ kw_47) rfl dX4_add_178 ?_
        refine lv_iconst (v := 1) hx hb dX4_add_181 (by decide +kernel) ?_
        refine lv_iadd hx hb dX4_add_182 ?_
        refine gm_putI (C := RX4) (T := TX4) (N := 4) (j := 2) hx hb hts inT_4 tyX4 tyX4_ok nmX4 hown hK hW hS k1 (by decide) rfl (by decide) rfl (hts _ kw_47) rfl rfl rfl rfl dX4_add_183 (fun H locs M34 eM34 hW hS => ?_)
        replace hf := hf M34 eM34
        refine lv_aload_n hx hb dX4_add_186 rfl (lv_at hl 1 rfl) ?_
        refine lv_aload_n hx hb dX4_add_187 rfl (lv_at hl 1 rfl) ?_
        refine gm_getI (C := RX4) (T := TX4) (N := 4) (j := 3) hx hb hts inT_4 hown hK hW k1 (by decide) rfl (by decide) rfl (hts _ kw_49) rfl dX4_add_188 ?_
        refine lv_iload hx hb dX4_add_191 (lv_at hl 4 rfl) ?_
        refine va_mmax hx hb (by rw [hml]; exact hl.1.symm) hown (hts _ kw_512) (hts _ kw_134) (hts _ kw_6) (hts _ kmath_maxI) (Nat.le_of_ble_eq_true rfl) (Nat.le_of_ble_eq_true rfl) (Nat.zero_le _) (Nat.zero_le _) dX4_add_193 ?_
        refine gm_putI (C := RX4) (T := TX4) (N := 4) (j := 3) hx hb hts inT_4 tyX4 tyX4_ok nmX4 hown hK hW hS k1 (by decide) rfl (by decide) rfl (hts _ kw_49) rfl rfl rfl rfl dX4_add_196 (fun H locs M35 eM35 hW hS => ?_)
        replace hf := hf M35 eM35
        exact gm_vret hx hb hr hlocks hW hS hf dX4_add_199
      · replace hf := hf.2 c27
        refine lv_aload_n hx hb dX4_add_120 rfl (lv_at hl 0 rfl) ?_
        obtain ⟨b36, hb36, hf⟩ := hf
        refine gm_getR (C := RX4) (T := TX4) (N := 4) (j := 0) hx hb hts inT_4 hown hK hW k1 (by decide) rfl (by decide) rfl (hts _ kw_43) rfl dX4_add_121 hb36 ?_
        refine lv_iload hx hb dX4_add_124 (lv_at hl 4 rfl) ?_
        refine lv_iload hx hb dX4_add_126 (lv_at hl 5 rfl) ?_
        refine lv_iadd hx hb dX4_add_128 ?_
        refine lv_lload hx hb dX4_add_129 (lv_at hl 1 rfl) ?_
        refine lv_bipush (v := 8) hx hb dX4_add_131 (by decide +kernel) ?_
        refine lv_iload hx hb dX4_add_133 (lv_at hl 5 rfl) ?_
        refine lv_bipush (v := 8) hx hb dX4_add_135 (by decide +kernel) ?_
        refine lv_irem hx hb dX4_add_137 (by decide) ?_
        refine lv_imul hx hb dX4_add_138 ?_
        refine lv_lshr hx hb dX4_add_139 rfl ?_
        refine lv_l2i hx hb dX4_add_140 rfl ?_
        refine lv_i2b hx hb dX4_add_141 rfl ?_
        obtain ⟨k38, hf⟩ := hf
        obtain ⟨h39, hf⟩ := hf
        refine gm_bast hx hb hK hW hS k38 h39 dX4_add_142 (fun H locs M40 eM40 hW hS => ?_)
        replace hf := hf M40 eM40
        obtain ⟨x41, ex41⟩ : ∃ y : Int32, y = x25 + 1 := ⟨_, rfl⟩
        replace hf := hf x41 ex41
        refine lv_iinc (v := x41) (lv' := [(9, .int x41), (0, .ref v0), (4, .long v4), (6, .int v6), (7, .int v7), (8, .int r24)]) hx hb dX4_add_143 hl (k := 5) rfl (by rw [ex41]; rfl) (by decide) rfl (fun ls hl => ?_)
        refine lv_goto (tgt := 113) hx hb dX4_add_146 (by decide) ?_
        exact ih113 _ _ _ _ _ (lv_sub hl [1, 2, 3, 4, 5, 0] rfl) hW hS hf
  exact lp113 n113 _ _ _ _ _ (lv_sub hl [2, 5, 6, 7, 1, 0] rfl) hW hS hf

abbrev rm_X4_clear : Room := { frames := 2, cells := 0, slots := 0, locals := 80 }
def f_X4_clear (Y : Ly) (v0 : Nat) (M : Mm) (Kn : Mm → Prop) : Prop :=
  yK Y v0 = 4 ∧ (∀ M2 : Mm, M2 = sI M v0 (m1 (mI M v0) 1 0) → (∀ M3 : Mm, M3 = sI M2 v0 (m1 (mI M2 v0) 2 0) → (∀ M4 : Mm, M4 = sI M3 v0 (m1 (mI M3 v0) 3 0) → (Kn M4))))
set_option maxHeartbeats 4000000 in
set_option maxRecDepth 100000 in
theorem m_X4_clear (l : Launch) (D : va_G) (cy : Cy) (tq sz : Nat) (Y : Ly) (v0 : Nat) (M : Mm) (Kn : Mm → Prop) : Met l yX4_clear (Cond.code yX4_clear cX4_clear 1 none :: TT) rm_X4_clear (PcG D cy tq [.ref v0] sz Y M (f_X4_clear Y v0 M Kn)) (va_Qv Kn (BG D cy (Am Y sz) Y) (Am Y sz)) 0 0 (Am Y sz) := by
  refine Met.ofW (cc := cX4_clear) (maxL := 1) (ret := none) (by decide) rfl ?_
  intro p e s m args below meth c s₁ B hml hv
  obtain ⟨hargs, hsz, hW, hK, hC, hf⟩ := hv
  subst hsz
  have hx := B.exec
  have hb := B.bytes
  have hr := B.returns
  have hts : ∀ w ∈ TT, w.before args s = true := fun w h => atoms_spec (ws := Cond.code yX4_clear cX4_clear 1 none :: TT) B.pre w (List.mem_cons_of_mem _ h)
  have hown : s.vm.findClass RX4 = some m.cls := findClass_of_methodNamed B.named
  have hlocks := B.notSynchronized
  replace hW := Wd_self (sz := s.heap.size) hW
  generalize hAe : Am Y s.heap.size = A at hW hC ⊢
  have hA : ∀ q : Nat, s.heap.size ≤ q → A q := fun q h => by rw [← hAe]; exact Or.inr h
  clear hAe
  have hS : va_S A s.heap s.heap [] := va_S.rf
  obtain ⟨ls, hE, hl⟩ := gm_entry m [.ref v0] (n := 1) hargs (Nat.le_of_ble_eq_true rfl)
  rw [hE]
  have hl : lv_has ls 1 [(0, .ref v0)] := hl
  show W p l e rm_X4_clear s m args below meth c s.heap [] 0 0 (MQ below (va_Qv Kn (BG D cy A Y) A) args s 0 0 A) (F0 m 0 ls [])
  unfold f_X4_clear at hf
  refine lv_aload_n hx hb dX4_clear_0 rfl (lv_at hl 0 rfl) ?_
  refine lv_iconst (v := 0) hx hb dX4_clear_1 (by decide +kernel) ?_
  obtain ⟨k1, hf⟩ := hf
  refine gm_putI (C := RX4) (T := TX4) (N := 4) (j := 1) hx hb hts inT_4 tyX4 tyX4_ok nmX4 hown hK hW hS k1 (by decide) rfl (by decide) rfl (hts _ kw_45) rfl rfl rfl rfl dX4_clear_2 (fun H locs M2 eM2 hW hS => ?_)
  replace hf := hf M2 eM2
  refine lv_aload_n hx hb dX4_clear_5 rfl (lv_at hl 0 rfl) ?_
  refine lv_iconst (v := 0) hx hb dX4_clear_6 (by decide +kernel) ?_
  refine gm_putI (C := RX4) (T := TX4) (N := 4) (j := 2) hx hb hts inT_4 tyX4 tyX4_ok nmX4 hown hK hW hS k1 (by decide) rfl (by decide) rfl (hts _ kw_47) rfl rfl rfl rfl dX4_clear_7 (fun H locs M3 eM3 hW hS => ?_)
  replace hf := hf M3 eM3
  refine lv_aload_n hx hb dX4_clear_10 rfl (lv_at hl 0 rfl) ?_
  refine lv_iconst (v := 0) hx hb dX4_clear_11 (by decide +kernel) ?_
  refine gm_putI (C := RX4) (T := TX4) (N := 4) (j := 3) hx hb hts inT_4 tyX4 tyX4_ok nmX4 hown hK hW hS k1 (by decide) rfl (by decide) rfl (hts _ kw_49) rfl rfl rfl rfl dX4_clear_12 (fun H locs M4 eM4 hW hS => ?_)
  replace hf := hf M4 eM4
  exact gm_vret hx hb hr hlocks hW hS hf dX4_clear_15

abbrev rm_X5_init : Room := { frames := 3, cells := 1, slots := 8, locals := 100 }
def f_X5_init (Y : Ly) (v0 : Nat) (M : Mm) (Kn : Ly → Mm → Prop) : Prop :=
  ∀ q1 : Nat, yK Y q1 = 0 → ∀ Y2 : Ly, Y2 = yNew Y q1 10 0 → ∀ M3 : Mm, M3 = mZ M q1 → (f_X10_init Y2 q1 M3 (fun Y4 M5 => (yK Y4 v0 = 5 ∧ (∀ M7 : Mm, M7 = sR M5 v0 (m1 (mR M5 v0) 2 (some q1)) → (Kn Y4 M7)))))
set_option maxHeartbeats 4000000 in
set_option maxRecDepth 100000 in
theorem m_X5_init (l : Launch) (D : va_G) (cy : Cy) (tq sz : Nat) (Y : Ly) (v0 : Nat) (M : Mm) (Kn : Ly → Mm → Prop) : Met l yX5_init (Cond.code yX5_init cX5_init 1 none :: TT) rm_X5_init (PcG D cy tq [.ref v0] sz Y M (f_X5_init Y v0 M Kn)) (QA D cy (Am Y sz) Kn) 1 8 (Am Y sz) := by
  refine Met.ofW (cc := cX5_init) (maxL := 1) (ret := none) (by decide) rfl ?_
  intro p e s m args below meth c s₁ B hml hv
  obtain ⟨hargs, hsz, hW, hK, hC, hf⟩ := hv
  subst hsz
  have hx := B.exec
  have hb := B.bytes
  have hr := B.returns
  have hts : ∀ w ∈ TT, w.before args s = true := fun w h => atoms_spec (ws := Cond.code yX5_init cX5_init 1 none :: TT) B.pre w (List.mem_cons_of_mem _ h)
  have hown : s.vm.findClass RX5 = some m.cls := findClass_of_methodNamed B.named
  have hlocks := B.notSynchronized
  have hin : meth.name = "<init>" := (name_of_methodNamed B.named B.method).1
  replace hW := Wd_self (sz := s.heap.size) hW
  generalize hAe : Am Y s.heap.size = A at hW hC ⊢
  have hA : ∀ q : Nat, s.heap.size ≤ q → A q := fun q h => by rw [← hAe]; exact Or.inr h
  clear hAe
  have hS : va_S A s.heap s.heap [] := va_S.rf
  obtain ⟨ls, hE, hl⟩ := gm_entry m [.ref v0] (n := 1) hargs (Nat.le_of_ble_eq_true rfl)
  rw [hE]
  have hl : lv_has ls 1 [(0, .ref v0)] := hl
  show W p l e rm_X5_init s m args below meth c s.heap [] 0 0 (MQ below (QA D cy A Kn) args s 1 8 A) (F0 m 0 ls [])
  unfold f_X5_init at hf
  refine lv_aload_n hx hb dX5_init_0 rfl (lv_at hl 0 rfl) ?_
  refine W.objInit hx hb hown (hts _ kw_60) (hts _ kw_36) (hts _ kw_37) rfl (by rw [hml]; exact hl.1) rfl dX5_init_1 (Nat.le_of_ble_eq_true rfl) (Nat.le_of_ble_eq_true rfl) ?_
  refine W.eq (g2 := F0 m 4 ls []) rfl ?_
  refine lv_aload_n hx hb dX5_init_4 rfl (lv_at hl 0 rfl) ?_
  refine gm_new (ci := 10) hx hb hts inT_10 tyX10 tyX10_ok hown (hts _ kw_61) (hts _ kw_62) (hts _ kw_4) hK hW hS hA rfl (by decide) rfl def_10 (by show _ ≤ 1; omega) (by show _ ≤ 8; omega) dX5_init_5 (fun q1 H Y2 M3 h0q1 eY2 eM3 hW hS => ?_)
  replace hf := hf q1 h0q1 Y2 eY2 M3 eM3
  refine lv_dup hx hb dX5_init_8 rfl ?_
  refine gm_ca (va_runIN (As := []) (rest := [.ref q1, .ref v0]) ⟨hx, hb, hml, hown, hts⟩ (m_X10_init l D cy tq _ Y2 _ _ _) ⟨va_cnB 0 hts (good_C kw_64) rfl rfl rfl hC.2.2.2.2.2.2.1 (hts _ kw_4) (by decide +kernel) ⟨Nat.le_of_ble_eq_true rfl, Nat.le_of_ble_eq_true rfl⟩, rfl, hts _ kw_63⟩ (gm_preS hK hW hC hS hA hf) rfl rfl hl.1 rfl (lv_room (Nat.le_of_ble_eq_true rfl)) dX5_init_9 ⟨by show _ ≤ 1; omega, by show _ ≤ 8; omega⟩) hW hS hA (fun Y4 M5 H locs hW hS hf => ?_)
  obtain ⟨k6, hf⟩ := hf
  refine gm_putFR (C := RX5) (T := TX5) (N := 3) (j := 2) hx hb hts inT_5 tyX5 tyX5_ok nmX5 hown hK hW hS k6 (by decide) rfl (by decide) rfl (hts _ kw_104) rfl rfl hin rfl rfl rfl dX5_init_12 (fun H locs M7 eM7 hW hS => ?_)
  replace hf := hf M7 eM7
  refine W.widen (k := 1) (n := 8) (by omega) (by omega) ?_
  exact gm_vretA hx hb hr hlocks hW hS hf dX5_init_15

abbrev rm_X5_tell : Room := { frames := 2, cells := 0, slots := 0, locals := 80 }
def f_X5_tell (Y : Ly) (v0 : Nat) (v1 : Int32) (v2 : Int32) (M : Mm) (Kn : Mm → Prop) : Prop :=
  yK Y v0 = 5 ∧ (∀ M2 : Mm, M2 = sI M v0 (m1 (mI M v0) 0 v1) → (∀ M3 : Mm, M3 = sI M2 v0 (m1 (mI M2 v0) 1 v2) → (Kn M3)))
set_option maxHeartbeats 4000000 in
set_option maxRecDepth 100000 in
theorem m_X5_tell (l : Launch) (D : va_G) (cy : Cy) (tq sz : Nat) (Y : Ly) (v0 : Nat) (v1 : Int32) (v2 : Int32) (M : Mm) (Kn : Mm → Prop) : Met l yX5_tell (Cond.code yX5_tell cX5_tell 3 none :: TT) rm_X5_tell (PcG D cy tq [.ref v0, .int v1, .int v2] sz Y M (f_X5_tell Y v0 v1 v2 M Kn)) (va_Qv Kn (BG D cy (Am Y sz) Y) (Am Y sz)) 0 0 (Am Y sz) := by
  refine Met.ofW (cc := cX5_tell) (maxL := 3) (ret := none) (by decide) rfl ?_
  intro p e s m args below meth c s₁ B hml hv
  obtain ⟨hargs, hsz, hW, hK, hC, hf⟩ := hv
  subst hsz
  have hx := B.exec
  have hb := B.bytes
  have hr := B.returns
  have hts : ∀ w ∈ TT, w.before args s = true := fun w h => atoms_spec (ws := Cond.code yX5_tell cX5_tell 3 none :: TT) B.pre w (List.mem_cons_of_mem _ h)
  have hown : s.vm.findClass RX5 = some m.cls := findClass_of_methodNamed B.named
  have hlocks := B.notSynchronized
  replace hW := Wd_self (sz := s.heap.size) hW
  generalize hAe : Am Y s.heap.size = A at hW hC ⊢
  have hA : ∀ q : Nat, s.heap.size ≤ q → A q := fun q h => by rw [← hAe]; exact Or.inr h
  clear hAe
  have hS : va_S A s.heap s.heap [] := va_S.rf
  obtain ⟨ls, hE, hl⟩ := gm_entry m [.ref v0, .int v1, .int v2] (n := 3) hargs (Nat.le_of_ble_eq_true rfl)
  rw [hE]
  have hl : lv_has ls 3 [(0, .ref v0), (1, .int v1), (2, .int v2)] := hl
  show W p l e rm_X5_tell s m args below meth c s.heap [] 0 0 (MQ below (va_Qv Kn (BG D cy A Y) A) args s 0 0 A) (F0 m 0 ls [])
  unfold f_X5_tell at hf
  refine lv_aload_n hx hb dX5_tell_0 rfl (lv_at hl 0 rfl) ?_
  refine lv_iload_n hx hb dX5_tell_1 rfl (lv_at hl 1 rfl) ?_
  obtain ⟨k1, hf⟩ := hf
  refine gm_putI (C := RX5) (T := TX5) (N := 3) (j := 0) hx hb hts inT_5 tyX5 tyX5_ok nmX5 hown hK hW hS k1 (by decide) rfl (by decide) rfl (hts _ kw_100) rfl rfl rfl rfl dX5_tell_2 (fun H locs M2 eM2 hW hS => ?_)
  replace hf := hf M2 eM2
  refine lv_aload_n hx hb dX5_tell_5 rfl (lv_at hl 0 rfl) ?_
  refine lv_iload_n hx hb dX5_tell_6 rfl (lv_at hl 2 rfl) ?_
  refine gm_putI (C := RX5) (T := TX5) (N := 3) (j := 1) hx hb hts inT_5 tyX5 tyX5_ok nmX5 hown hK hW hS k1 (by decide) rfl (by decide) rfl (hts _ kw_102) rfl rfl rfl rfl dX5_tell_7 (fun H locs M3 eM3 hW hS => ?_)
  replace hf := hf M3 eM3
  exact gm_vret hx hb hr hlocks hW hS hf dX5_tell_10

abbrev rm_X5_examineRecords : Room := { frames := 5, cells := 0, slots := 0, locals := 158 }
def f_X5_examineRecords_151 (Y : Ly) (Kn : Mm → Prop) (M10 : Mm) : Prop :=
  Kn M10
def f_X5_examineRecords_77 (Y : Ly) (v0 : Nat) (Kn : Mm → Prop) (x6 : Int32) (M24 : Mm) : Prop :=
  f_X5_tell Y v0 4 x6 M24 (fun M25 => (Kn M25))
def L_X5_examineRecords_23 (Y : Ly) (v0 : Nat) (v1 : Nat) (v2 : Int32) (Kn : Mm → Prop) (r2 : Int32) (r4 : Int64) (x5 : Int64) (x6 : Int32) (x7 : Int32) (M8 : Mm) (again23 : Int64 → Int32 → Int32 → Mm → Prop) : Prop :=
  (r2 ≤ x7 → ((v2 ≤ x6 → (f_X0_greatestTimeOf Y v1 0 M8 (fun r13 M12 => ((x5 = r13 → (f_X5_examineRecords_151 Y Kn M12)) ∧ (¬ (x5 = r13) → (yK Y v0 = 5 ∧ (f_X5_tell Y v0 5 35 M12 (fun M15 => (f_X5_examineRecords_151 Y Kn M15))))))))) ∧ (¬ (v2 ≤ x6) → (yK Y v0 = 5 ∧ (f_X5_tell Y v0 4 x6 M8 (fun M17 => (f_X5_examineRecords_151 Y Kn M17))))))) ∧ (¬ (r2 ≤ x7) → (yK Y v0 = 5 ∧ (∃ b20 : Nat, mR M8 v0 2 = some b20 ∧ (yK Y b20 = 10 ∧ (f_X10_read Y b20 v1 x6 v2 M8 (fun r22 M21 => ((r22 = 0 → (f_X5_examineRecords_77 Y v0 Kn x6 M21)) ∧ (¬ (r22 = 0) → (∃ b27 : Nat, mR M21 v0 2 = some b27 ∧ (yK Y b27 = 10 ∧ ((¬ (mJ M21 b27 1) = x7.toInt64 → (f_X5_examineRecords_77 Y v0 Kn x6 M21)) ∧ ((mJ M21 b27 1) = x7.toInt64 → (∃ b30 : Nat, mR M21 v0 2 = some b30 ∧ (yK Y b30 = 10 ∧ (f_X11_isWithin Y (r4 + (mJ M21 b30 0)) 0 1125899906842624 M21 (fun r33 M32 => ((¬ r33 = 0 → (∃ b35 : Nat, mR M32 v0 2 = some b35 ∧ (yK Y b35 = 10 ∧ (∀ x37 : Int64, x37 = (if (r4 + (mJ M32 b35 0)) < x5 then x5 else (r4 + (mJ M32 b35 0))) → (∃ b38 : Nat, mR M32 v0 2 = some b38 ∧ (yK Y b38 = 10 ∧ (∀ x40 : Int32, x40 = mI M32 b38 6 → (∀ x41 : Int32, x41 = x7 + 1 → (again23 x37 x40 x41 M32))))))))) ∧ (r33 = 0 → (f_X5_examineRecords_77 Y v0 Kn x6 M32)))))))))))))))))))
def f_X5_examineRecords (Y : Ly) (v0 : Nat) (v1 : Nat) (v2 : Int32) (M : Mm) (Kn : Mm → Prop) : Prop :=
  f_X0_countOf Y v1 0 M (fun r2 M1 => (f_X0_firstTimeOf Y v1 0 M1 (fun r4 M3 => (∃ n, LOOP4 (L_X5_examineRecords_23 Y v0 v1 v2 Kn r2 r4) n 0 61 0 M3))))
set_option maxHeartbeats 4000000 in
set_option maxRecDepth 100000 in
theorem m_X5_examineRecords (l : Launch) (D : va_G) (cy : Cy) (tq sz : Nat) (Y : Ly) (v0 : Nat) (v1 : Nat) (v2 : Int32) (M : Mm) (Kn : Mm → Prop) : Met l yX5_examineRecords (Cond.code yX5_examineRecords cX5_examineRecords 10 none :: TT) rm_X5_examineRecords (PcG D cy tq [.ref v0, .ref v1, .int v2] sz Y M (f_X5_examineRecords Y v0 v1 v2 M Kn)) (va_Qv Kn (BG D cy (Am Y sz) Y) (Am Y sz)) 0 0 (Am Y sz) := by
  refine Met.ofW (cc := cX5_examineRecords) (maxL := 10) (ret := none) (by decide) rfl ?_
  intro p e s m args below meth c s₁ B hml hv
  obtain ⟨hargs, hsz, hW, hK, hC, hf⟩ := hv
  subst hsz
  have hx := B.exec
  have hb := B.bytes
  have hr := B.returns
  have hts : ∀ w ∈ TT, w.before args s = true := fun w h => atoms_spec (ws := Cond.code yX5_examineRecords cX5_examineRecords 10 none :: TT) B.pre w (List.mem_cons_of_mem _ h)
  have hown : s.vm.findClass RX5 = some m.cls := findClass_of_methodNamed B.named
  have hlocks := B.notSynchronized
  replace hW := Wd_self (sz := s.heap.size) hW
  generalize hAe : Am Y s.heap.size = A at hW hC ⊢
  have hA : ∀ q : Nat, s.heap.size ≤ q → A q := fun q h => by rw [← hAe]; exact Or.inr h
  clear hAe
  have hS : va_S A s.heap s.heap [] := va_S.rf
  obtain ⟨ls, hE, hl⟩ := gm_entry m [.ref v0, .ref v1, .int v2] (n := 10) hargs (Nat.le_of_ble_eq_true rfl)
  rw [hE]
  have hl : lv_has ls 10 [(0, .ref v0), (1, .ref v1), (2, .int v2)] := hl
  show W p l e rm_X5_examineRecords s m args below meth c s.heap [] 0 0 (MQ below (va_Qv Kn (BG D cy A Y) A) args s 0 0 A) (F0 m 0 ls [])
  unfold f_X5_examineRecords at hf
  refine lv_aload_n hx hb dX5_examineRecords_0 rfl (lv_at hl 1 rfl) ?_
  refine lv_iconst (v := 0) hx hb dX5_examineRecords_1 (by decide +kernel) ?_
  refine gm_ci (va_runS (As := [.ref v1, .int 0]) (rest := []) ⟨hx, hb, hml, hown, hts⟩ (m_X0_countOf l D cy tq _ Y _ _ _ _) (va_cwS 2 hts (good_S kw_781 kw_782 kw_20 kw_783) rfl rfl rfl (by decide +kernel) ⟨Nat.le_of_ble_eq_true rfl, Nat.le_of_ble_eq_true rfl⟩) (gm_preS hK hW hC hS hA hf) rfl rfl hl.1 rfl (lv_room (Nat.le_of_ble_eq_true rfl)) dX5_examineRecords_2 ⟨Nat.le_of_ble_eq_true rfl, Nat.le_of_ble_eq_true rfl⟩) hW hS hA (fun r2 M1 H locs hW hS hf => ?_)
  refine lv_istore_n (lv' := [(3, .int r2), (0, .ref v0), (1, .ref v1), (2, .int v2)]) hx hb dX5_examineRecords_5 rfl hl (by decide) rfl (fun ls hl => ?_)
  refine lv_aload_n hx hb dX5_examineRecords_6 rfl (lv_at hl 2 rfl) ?_
  refine lv_iconst (v := 0) hx hb dX5_examineRecords_7 (by decide +kernel) ?_
  refine gm_cl (va_runS (As := [.ref v1, .int 0]) (rest := []) ⟨hx, hb, hml, hown, hts⟩ (m_X0_firstTimeOf l D cy tq _ Y _ _ _ _) (va_cwS 2 hts (good_S kw_794 kw_795 kw_20 kw_796) rfl rfl rfl (by decide +kernel) ⟨Nat.le_of_ble_eq_true rfl, Nat.le_of_ble_eq_true rfl⟩) (gm_preS hK hW hC hS hA hf) rfl rfl hl.1 rfl (lv_room (Nat.le_of_ble_eq_true rfl)) dX5_examineRecords_8 ⟨Nat.le_of_ble_eq_true rfl, Nat.le_of_ble_eq_true rfl⟩) hW hS hA (fun r4 M3 H locs hW hS hf => ?_)
  refine lv_lstore (lv' := [(4, .long r4), (3, .int r2), (0, .ref v0), (1, .ref v1), (2, .int v2)]) hx hb dX5_examineRecords_11 hl (by decide) rfl (fun ls hl => ?_)
  refine lv_lconst (v := 0) hx hb dX5_examineRecords_13 (by decide) ?_
  refine lv_lstore (lv' := [(6, .long 0), (4, .long r4), (3, .int r2), (0, .ref v0), (1, .ref v1), (2, .int v2)]) hx hb dX5_examineRecords_14 hl (by decide) rfl (fun ls hl => ?_)
  refine lv_bipush (v := 61) hx hb dX5_examineRecords_16 (by decide +kernel) ?_
  refine lv_istore (lv' := [(8, .int 61), (6, .long 0), (4, .long r4), (3, .int r2), (0, .ref v0), (1, .ref v1), (2, .int v2)]) hx hb dX5_examineRecords_18 hl (by decide) rfl (fun ls hl => ?_)
  refine lv_iconst (v := 0) hx hb dX5_examineRecords_20 (by decide +kernel) ?_
  refine lv_istore (lv' := [(9, .int 0), (8, .int 61), (6, .long 0), (4, .long r4), (3, .int r2), (0, .ref v0), (1, .ref v1), (2, .int v2)]) hx hb dX5_examineRecords_21 hl (by decide) rfl (fun ls hl => ?_)
  obtain ⟨n23, hf⟩ := hf
  have lp23 : ∀ (n23 : Nat) (x5 : Int64) (x6 : Int32) (x7 : Int32) (M8 : Mm) (H : Heap) (locs : List Loc) (ls : Array Slot), lv_has ls 10 [(0, .ref v0), (1, .ref v1), (2, .int v2), (3, .int r2), (4, .long r4), (6, .long x5), (8, .int x6), (9, .int x7)] → Wd D cy A Y M8 H → va_S A s.heap H locs → LOOP4 (L_X5_examineRecords_23 Y v0 v1 v2 Kn r2 r4) n23 x5 x6 x7 M8 → W p l e rm_X5_examineRecords s m args below meth c H locs 0 0 (MQ below (va_Qv Kn (BG D cy A Y) A) args s 0 0 A) (F0 m 23 ls []) := by
    intro n23
    induction n23 with
    | zero => intro x5 x6 x7 M8 H locs ls hl hW hS hf; exact hf.elim
    | succ n23 ih23 =>
      intro x5 x6 x7 M8 H locs ls hl hW hS hf
      replace hf : L_X5_examineRecords_23 Y v0 v1 v2 Kn r2 r4 x5 x6 x7 M8 (LOOP4 (L_X5_examineRecords_23 Y v0 v1 v2 Kn r2 r4) n23) := hf
      unfold L_X5_examineRecords_23 at hf
      refine lv_iload hx hb dX5_examineRecords_23 (lv_at hl 7 rfl) ?_
      refine lv_iload_n hx hb dX5_examineRecords_25 rfl (lv_at hl 3 rfl) ?_
      refine lv_icmp_ge (tgt := 117) hx hb dX5_examineRecords_26 (by decide) (fun c9 => ?_) (fun c9 => ?_)
      · replace hf := hf.1 c9
        refine lv_iload hx hb dX5_examineRecords_117 (lv_at hl 6 rfl) ?_
        refine lv_iload_n hx hb dX5_examineRecords_119 rfl (lv_at hl 2 rfl) ?_
        have j151 : ∀ (M10 : Mm) (H : Heap) (locs : List Loc) (ls : Array Slot), lv_has ls 10 [] → Wd D cy A Y M10 H → va_S A s.heap H locs → f_X5_examineRecords_151 Y Kn M10 → W p l e rm_X5_examineRecords s m args below meth c H locs 0 0 (MQ below (va_Qv Kn (BG D cy A Y) A) args s 0 0 A) (F0 m 151 ls []) := by
          intro M10 H locs ls hl hW hS hf
          unfold f_X5_examineRecords_151 at hf
          exact gm_vret hx hb hr hlocks hW hS hf dX5_examineRecords_151
        refine lv_icmp_ge (tgt := 133) hx hb dX5_examineRecords_120 (by decide) (fun c11 => ?_) (fun c11 => ?_)
        · replace hf := hf.1 c11
          refine lv_lload hx hb dX5_examineRecords_133 (lv_at hl 5 rfl) ?_
          refine lv_aload_n hx hb dX5_examineRecords_135 rfl (lv_at hl 1 rfl) ?_
          refine lv_iconst (v := 0) hx hb dX5_examineRecords_136 (by decide +kernel) ?_
          refine gm_cl (va_runS (As := [.ref v1, .int 0]) (rest := [.long x5]) ⟨hx, hb, hml, hown, hts⟩ (m_X0_greatestTimeOf l D cy tq _ Y _ _ _ _) (va_cwS 2 hts (good_S kw_798 kw_799 kw_20 kw_800) rfl rfl rfl (by decide +kernel) ⟨Nat.le_of_ble_eq_true rfl, Nat.le_of_ble_eq_true rfl⟩) (gm_preS hK hW hC hS hA hf) rfl rfl hl.1 rfl (lv_room (Nat.le_of_ble_eq_true rfl)) dX5_examineRecords_137 ⟨Nat.le_of_ble_eq_true rfl, Nat.le_of_ble_eq_true rfl⟩) hW hS hA (fun r13 M12 H locs hW hS hf => ?_)
          refine W.lcmp hx hb dX5_examineRecords_140 ?_
          refine lv_if_eq (tgt := 151) hx hb dX5_examineRecords_141 (by decide) (fun c14 => ?_) (fun c14 => ?_)
          · replace hf := hf.1 (lg_eq.mp c14)
            exact j151 _ _ _ _ (lv_sub hl [] rfl) hW hS hf
          · replace hf := hf.2 (fun z => c14 (lg_eq.mpr z))
            refine lv_aload_n hx hb dX5_examineRecords_144 rfl (lv_at hl 0 rfl) ?_
            refine lv_iconst (v := 5) hx hb dX5_examineRecords_145 (by decide +kernel) ?_
            refine lv_bipush (v := 35) hx hb dX5_examineRecords_146 (by decide +kernel) ?_
            obtain ⟨k16, hf⟩ := hf
            refine gm_cv (va_runV (As := [.int 5, .int 35]) (rest := []) ⟨hx, hb, hml, hown, hts⟩ (m_X5_tell l D cy tq _ Y _ _ _ _ _) (cwV 2 hts (good_V kw_774 kw_775 kw_1789 kw_3 kw_776) rfl rfl rfl (by decide +kernel) ⟨Nat.le_of_ble_eq_true rfl, Nat.le_of_ble_eq_true rfl⟩) (gm_preV hK hW hC hS hA k16 (by decide) (q := (RX5, TX5, 3)) rfl rfl hf) rfl rfl hl.1 rfl (lv_room (Nat.le_of_ble_eq_true rfl)) dX5_examineRecords_148 ⟨Nat.le_of_ble_eq_true rfl, Nat.le_of_ble_eq_true rfl⟩) hW hS hA (fun M15 H locs hW hS hf => ?_)
            exact j151 _ _ _ _ (lv_sub hl [] rfl) hW hS hf
        · replace hf := hf.2 c11
          refine lv_aload_n hx hb dX5_examineRecords_123 rfl (lv_at hl 0 rfl) ?_
          refine lv_iconst (v := 4) hx hb dX5_examineRecords_124 (by decide +kernel) ?_
          refine lv_iload hx hb dX5_examineRecords_125 (lv_at hl 6 rfl) ?_
          obtain ⟨k18, hf⟩ := hf
          refine gm_cv (va_runV (As := [.int 4, .int x6]) (rest := []) ⟨hx, hb, hml, hown, hts⟩ (m_X5_tell l D cy tq _ Y _ _ _ _ _) (cwV 2 hts (good_V kw_774 kw_775 kw_1789 kw_3 kw_776) rfl rfl rfl (by decide +kernel) ⟨Nat.le_of_ble_eq_true rfl, Nat.le_of_ble_eq_true rfl⟩) (gm_preV hK hW hC hS hA k18 (by decide) (q := (RX5, TX5, 3)) rfl rfl hf) rfl rfl hl.1 rfl (lv_room (Nat.le_of_ble_eq_true rfl)) dX5_examineRecords_127 ⟨Nat.le_of_ble_eq_true rfl, Nat.le_of_ble_eq_true rfl⟩) hW hS hA (fun M17 H locs hW hS hf => ?_)
          refine lv_goto (tgt := 151) hx hb dX5_examineRecords_130 (by decide) ?_
          exact j151 _ _ _ _ (lv_sub hl [] rfl) hW hS hf
      · replace hf := hf.2 c9
        refine lv_aload_n hx hb dX5_examineRecords_29 rfl (lv_at hl 0 rfl) ?_
        obtain ⟨k19, hf⟩ := hf
        obtain ⟨b20, hb20, hf⟩ := hf
        refine gm_getR (C := RX5) (T := TX5) (N := 3) (j := 2) hx hb hts inT_5 hown hK hW k19 (by decide) rfl (by decide) rfl (hts _ kw_104) rfl dX5_examineRecords_30 hb20 ?_
        refine lv_aload_n hx hb dX5_examineRecords_33 rfl (lv_at hl 1 rfl) ?_
        refine lv_iload hx hb dX5_examineRecords_34 (lv_at hl 6 rfl) ?_
        refine lv_iload_n hx hb dX5_examineRecords_36 rfl (lv_at hl 2 rfl) ?_
        obtain ⟨k23, hf⟩ := hf
        refine gm_ci (va_runV (As := [.ref v1, .int x6, .int v2]) (rest := []) ⟨hx, hb, hml, hown, hts⟩ (m_X10_read l D cy tq _ Y _ _ _ _ _ _) (cwV 3 hts (good_V kw_818 kw_819 kw_820 kw_4 kw_821) rfl rfl rfl (by decide +kernel) ⟨Nat.le_of_ble_eq_true rfl, Nat.le_of_ble_eq_true rfl⟩) (gm_preV hK hW hC hS hA k23 (by decide) (q := (RX10, TX10, 8)) rfl rfl hf) rfl rfl hl.1 rfl (lv_room (Nat.le_of_ble_eq_true rfl)) dX5_examineRecords_37 ⟨Nat.le_of_ble_eq_true rfl, Nat.le_of_ble_eq_true rfl⟩) hW hS hA (fun r22 M21 H locs hW hS hf => ?_)
        have j77 : ∀ (M24 : Mm) (H : Heap) (locs : List Loc) (ls : Array Slot), lv_has ls 10 [(0, .ref v0), (8, .int x6)] → Wd D cy A Y M24 H → va_S A s.heap H locs → f_X5_examineRecords_77 Y v0 Kn x6 M24 → W p l e rm_X5_examineRecords s m args below meth c H locs 0 0 (MQ below (va_Qv Kn (BG D cy A Y) A) args s 0 0 A) (F0 m 77 ls []) := by
          intro M24 H locs ls hl hW hS hf
          unfold f_X5_examineRecords_77 at hf
          refine lv_aload_n hx hb dX5_examineRecords_77 rfl (lv_at hl 0 rfl) ?_
          refine lv_iconst (v := 4) hx hb dX5_examineRecords_78 (by decide +kernel) ?_
          refine lv_iload hx hb dX5_examineRecords_79 (lv_at hl 1 rfl) ?_
          refine gm_cv (va_runV (As := [.int 4, .int x6]) (rest := []) ⟨hx, hb, hml, hown, hts⟩ (m_X5_tell l D cy tq _ Y _ _ _ _ _) (cwV 2 hts (good_V kw_774 kw_775 kw_1789 kw_3 kw_776) rfl rfl rfl (by decide +kernel) ⟨Nat.le_of_ble_eq_true rfl, Nat.le_of_ble_eq_true rfl⟩) (gm_preV hK hW hC hS hA k19 (by decide) (q := (RX5, TX5, 3)) rfl rfl hf) rfl rfl hl.1 rfl (lv_room (Nat.le_of_ble_eq_true rfl)) dX5_examineRecords_81 ⟨Nat.le_of_ble_eq_true rfl, Nat.le_of_ble_eq_true rfl⟩) hW hS hA (fun M25 H locs hW hS hf => ?_)
          exact gm_vret hx hb hr hlocks hW hS hf dX5_examineRecords_84
        refine lv_if_eq (tgt := 77) hx hb dX5_examineRecords_40 (by decide) (fun c26 => ?_) (fun c26 => ?_)
        · replace hf := hf.1 c26
          exact j77 _ _ _ _ (lv_sub hl [0, 6] rfl) hW hS hf
        · replace hf := hf.2 c26
          refine lv_aload_n hx hb dX5_examineRecords_43 rfl (lv_at hl 0 rfl) ?_
          obtain ⟨b27, hb27, hf⟩ := hf
          refine gm_getR (C := RX5) (T := TX5) (N := 3) (j := 2) hx hb hts inT_5 hown hK hW k19 (by decide) rfl (by decide) rfl (hts _ kw_104) rfl dX5_examineRecords_44 hb27 ?_
          obtain ⟨k28, hf⟩ := hf
          refine gm_getJ (C := RX10) (T := TX10) (N := 8) (j := 1) hx hb hts inT_10 hown hK hW k28 (by decide) rfl (by decide) rfl (hts _ kw_72) rfl dX5_examineRecords_47 ?_
          refine lv_iload hx hb dX5_examineRecords_50 (lv_at hl 7 rfl) ?_
          refine lv_i2l hx hb dX5_examineRecords_52 rfl ?_
          refine W.lcmp hx hb dX5_examineRecords_53 ?_
          refine lv_if_ne (tgt := 77) hx hb dX5_examineRecords_54 (by decide) (fun c29 => ?_) (fun c29 => ?_)
          · replace hf := hf.1 ((not_congr lg_eq).mp c29)
            exact j77 _ _ _ _ (lv_sub hl [0, 6] rfl) hW hS hf
          · replace hf := hf.2 (lg_eq.mp c29)
            refine lv_lload hx hb dX5_examineRecords_57 (lv_at hl 4 rfl) ?_
            refine lv_aload_n hx hb dX5_examineRecords_59 rfl (lv_at hl 0 rfl) ?_
            obtain ⟨b30, hb30, hf⟩ := hf
            refine gm_getR (C := RX5) (T := TX5) (N := 3) (j := 2) hx hb hts inT_5 hown hK hW k19 (by decide) rfl (by decide) rfl (hts _ kw_104) rfl dX5_examineRecords_60 hb30 ?_
            obtain ⟨k31, hf⟩ := hf
            refine gm_getJ (C := RX10) (T := TX10) (N := 8) (j := 0) hx hb hts inT_10 hown hK hW k31 (by decide) rfl (by decide) rfl (hts _ kw_68) rfl dX5_examineRecords_63 ?_
            refine lv_ladd hx hb dX5_examineRecords_66 ?_
            refine lv_lconst (v := 0) hx hb dX5_examineRecords_67 (by decide) ?_
            refine lv_ldc2 (v := 1125899906842624) hx hb hown (hts _ kw_797) dX5_examineRecords_68 ?_
            refine gm_ci (va_runSN (As := [.long (r4 + (mJ M21 b30 0)), .long 0, .long 1125899906842624]) (rest := []) ⟨hx, hb, hml, hown, hts⟩ (m_X11_isWithin l D cy tq _ Y _ _ _ _ _) ⟨va_cnB 3 hts (good_C kw_462) rfl rfl rfl hC.2.2.1 (hts _ kw_1) (by decide +kernel) ⟨Nat.le_of_ble_eq_true rfl, Nat.le_of_ble_eq_true rfl⟩, hts _ kw_461, trivial⟩ (gm_preS hK hW hC hS hA hf) rfl rfl hl.1 rfl (lv_room (Nat.le_of_ble_eq_true rfl)) dX5_examineRecords_71 ⟨Nat.le_of_ble_eq_true rfl, Nat.le_of_ble_eq_true rfl⟩) hW hS hA (fun r33 M32 H locs hW hS hf => ?_)
            refine lv_if_ne (tgt := 85) hx hb dX5_examineRecords_74 (by decide) (fun c34 => ?_) (fun c34 => ?_)
            · replace hf := hf.1 c34
              refine lv_lload hx hb dX5_examineRecords_85 (lv_at hl 5 rfl) ?_
              refine lv_lload hx hb dX5_examineRecords_87 (lv_at hl 4 rfl) ?_
              refine lv_aload_n hx hb dX5_examineRecords_89 rfl (lv_at hl 0 rfl) ?_
              obtain ⟨b35, hb35, hf⟩ := hf
              refine gm_getR (C := RX5) (T := TX5) (N := 3) (j := 2) hx hb hts inT_5 hown hK hW k19 (by decide) rfl (by decide) rfl (hts _ kw_104) rfl dX5_examineRecords_90 hb35 ?_
              obtain ⟨k36, hf⟩ := hf
              refine gm_getJ (C := RX10) (T := TX10) (N := 8) (j := 0) hx hb hts inT_10 hown hK hW k36 (by decide) rfl (by decide) rfl (hts _ kw_68) rfl dX5_examineRecords_93 ?_
              refine lv_ladd hx hb dX5_examineRecords_96 ?_
              refine va_mmax_long hx hb (by rw [hml]; exact hl.1.symm) hown (hts _ kw_834) (hts _ kw_381) (hts _ kw_6) (hts _ kmath_maxJ) (Nat.le_of_ble_eq_true rfl) (Nat.le_of_ble_eq_true rfl) (Nat.zero_le _) (Nat.zero_le _) dX5_examineRecords_97 ?_
              refine lv_topl (fun x37 ex37 => ?_)
              replace hf := hf x37 ex37
              refine lv_lstore (lv' := [(6, .long x37), (0, .ref v0), (1, .ref v1), (2, .int v2), (3, .int r2), (4, .long r4), (8, .int x6), (9, .int x7)]) hx hb dX5_examineRecords_100 hl (by decide) rfl (fun ls hl => ?_)
              refine lv_aload_n hx hb dX5_examineRecords_102 rfl (lv_at hl 1 rfl) ?_
              obtain ⟨b38, hb38, hf⟩ := hf
              refine gm_getR (C := RX5) (T := TX5) (N := 3) (j := 2) hx hb hts inT_5 hown hK hW k19 (by decide) rfl (by decide) rfl (hts _ kw_104) rfl dX5_examineRecords_103 hb38 ?_
              obtain ⟨k39, hf⟩ := hf
              refine gm_getI (C := RX10) (T := TX10) (N := 8) (j := 6) hx hb hts inT_10 hown hK hW k39 (by decide) rfl (by decide) rfl (hts _ kw_89) rfl dX5_examineRecords_106 ?_
              refine lv_topi (fun x40 ex40 => ?_)
              replace hf := hf x40 ex40
              refine lv_istore (lv' := [(8, .int x40), (6, .long x37), (0, .ref v0), (1, .ref v1), (2, .int v2), (3, .int r2), (4, .long r4), (9, .int x7)]) hx hb dX5_examineRecords_109 hl (by decide) rfl (fun ls hl => ?_)
              obtain ⟨x41, ex41⟩ : ∃ y : Int32, y = x7 + 1 := ⟨_, rfl⟩
              replace hf := hf x41 ex41
              refine lv_iinc (v := x41) (lv' := [(9, .int x41), (8, .int x40), (6, .long x37), (0, .ref v0), (1, .ref v1), (2, .int v2), (3, .int r2), (4, .long r4)]) hx hb dX5_examineRecords_111 hl (k := 7) rfl (by rw [ex41]; rfl) (by decide) rfl (fun ls hl => ?_)
              refine lv_goto (tgt := 23) hx hb dX5_examineRecords_114 (by decide) ?_
              exact ih23 _ _ _ _ _ _ _ (lv_sub hl [3, 4, 5, 6, 7, 2, 1, 0] rfl) hW hS hf
            · replace hf := hf.2 c34
              exact j77 _ _ _ _ (lv_sub hl [0, 6] rfl) hW hS hf
  exact lp23 n23 _ _ _ _ _ _ _ (lv_sub hl [5, 6, 7, 4, 3, 2, 1, 0] rfl) hW hS hf

abbrev rm_X5_isProducersNumber : Room := { frames := 2, cells := 0, slots := 0, locals := 80 }
def f_X5_isProducersNumber_30 (Y : Ly) (M : Mm) (Kn : Int32 → Mm → Prop) (y1 : Int32) : Prop :=
  bz y1 ∧ Kn y1 M
def f_X5_isProducersNumber (Y : Ly) (v0 : Int64) (v2 : Int32) (M : Mm) (Kn : Int32 → Mm → Prop) : Prop :=
  (¬ v0 = (-1) → ((v2 < 0 → (f_X5_isProducersNumber_30 Y M Kn 0)) ∧ (¬ (v2 < 0) → (f_X5_isProducersNumber_30 Y M Kn 1)))) ∧ (v0 = (-1) → ((¬ v2 = (-1) → (f_X5_isProducersNumber_30 Y M Kn 0)) ∧ (v2 = (-1) → (f_X5_isProducersNumber_30 Y M Kn 1))))
set_option maxHeartbeats 4000000 in
set_option maxRecDepth 100000 in
theorem m_X5_isProducersNumber (l : Launch) (D : va_G) (cy : Cy) (tq sz : Nat) (Y : Ly) (v0 : Int64) (v2 : Int32) (M : Mm) (Kn : Int32 → Mm → Prop) : Met l yX5_isProducersNumber (Cond.code yX5_isProducersNumber cX5_isProducersNumber 3 (some .boolean) :: TT) rm_X5_isProducersNumber (PcG D cy tq [.long v0, .int v2] sz Y M (f_X5_isProducersNumber Y v0 v2 M Kn)) (va_Qi Kn (BG D cy (Am Y sz) Y) (Am Y sz)) 0 0 (Am Y sz) := by
  refine Met.ofW (cc := cX5_isProducersNumber) (maxL := 3) (ret := (some .boolean)) (by decide) rfl ?_
  intro p e s m args below meth c s₁ B hml hv
  obtain ⟨hargs, hsz, hW, hK, hC, hf⟩ := hv
  subst hsz
  have hx := B.exec
  have hb := B.bytes
  have hr := B.returns
  have hts : ∀ w ∈ TT, w.before args s = true := fun w h => atoms_spec (ws := Cond.code yX5_isProducersNumber cX5_isProducersNumber 3 (some .boolean) :: TT) B.pre w (List.mem_cons_of_mem _ h)
  have hown : s.vm.findClass RX5 = some m.cls := findClass_of_methodNamed B.named
  have hlocks := B.notSynchronized
  replace hW := Wd_self (sz := s.heap.size) hW
  generalize hAe : Am Y s.heap.size = A at hW hC ⊢
  have hA : ∀ q : Nat, s.heap.size ≤ q → A q := fun q h => by rw [← hAe]; exact Or.inr h
  clear hAe
  have hS : va_S A s.heap s.heap [] := va_S.rf
  obtain ⟨ls, hE, hl⟩ := gm_entry m [.long v0, .int v2] (n := 3) hargs (Nat.le_of_ble_eq_true rfl)
  rw [hE]
  have hl : lv_has ls 3 [(0, .long v0), (2, .int v2)] := hl
  show W p l e rm_X5_isProducersNumber s m args below meth c s.heap [] 0 0 (MQ below (va_Qi Kn (BG D cy A Y) A) args s 0 0 A) (F0 m 0 ls [])
  unfold f_X5_isProducersNumber at hf
  refine lv_lload_n hx hb dX5_isProducersNumber_0 rfl (lv_at hl 0 rfl) ?_
  refine lv_ldc2 (v := -1) hx hb hown (hts _ kw_801) dX5_isProducersNumber_1 ?_
  refine W.lcmp hx hb dX5_isProducersNumber_4 ?_
  have j30 : ∀ (y1 : Int32) (H : Heap) (locs : List Loc) (ls : Array Slot), lv_has ls 3 [] → Wd D cy A Y M H → va_S A s.heap H locs → f_X5_isProducersNumber_30 Y M Kn y1 → W p l e rm_X5_isProducersNumber s m args below meth c H locs 0 0 (MQ below (va_Qi Kn (BG D cy A Y) A) args s 0 0 A) (F0 m 30 ls [.int y1]) := by
    intro y1 H locs ls hl hW hS hf
    unfold f_X5_isProducersNumber_30 at hf
    exact gm_zret hx hb hr hlocks hW hS hf.1 hf.2 dX5_isProducersNumber_30
  refine lv_if_ne (tgt := 21) hx hb dX5_isProducersNumber_5 (by decide) (fun c2 => ?_) (fun c2 => ?_)
  · replace hf := hf.1 ((not_congr lg_eq).mp c2)
    refine lv_iload_n hx hb dX5_isProducersNumber_21 rfl (lv_at hl 1 rfl) ?_
    refine lv_if_lt (tgt := 29) hx hb dX5_isProducersNumber_22 (by decide) (fun c3 => ?_) (fun c3 => ?_)
    · replace hf := hf.1 c3
      refine lv_iconst (v := 0) hx hb dX5_isProducersNumber_29 (by decide +kernel) ?_
      exact j30 _ _ _ _ (lv_sub hl [] rfl) hW hS hf
    · replace hf := hf.2 c3
      refine lv_iconst (v := 1) hx hb dX5_isProducersNumber_25 (by decide +kernel) ?_
      refine lv_goto (tgt := 30) hx hb dX5_isProducersNumber_26 (by decide) ?_
      exact j30 _ _ _ _ (lv_sub hl [] rfl) hW hS hf
  · replace hf := hf.2 (lg_eq.mp c2)
    refine lv_iload_n hx hb dX5_isProducersNumber_8 rfl (lv_at hl 1 rfl) ?_
    refine lv_iconst (v := -1) hx hb dX5_isProducersNumber_9 (by decide +kernel) ?_
    refine lv_icmp_ne (tgt := 17) hx hb dX5_isProducersNumber_10 (by decide) (fun c4 => ?_) (fun c4 => ?_)
    · replace hf := hf.1 c4
      refine lv_iconst (v := 0) hx hb dX5_isProducersNumber_17 (by decide +kernel) ?_
      refine lv_goto (tgt := 30) hx hb dX5_isProducersNumber_18 (by decide) ?_
      exact j30 _ _ _ _ (lv_sub hl [] rfl) hW hS hf
    · replace hf := hf.2 c4
      refine lv_iconst (v := 1) hx hb dX5_isProducersNumber_13 (by decide +kernel) ?_
      refine lv_goto (tgt := 30) hx hb dX5_isProducersNumber_14 (by decide) ?_
      exact j30 _ _ _ _ (lv_sub hl [] rfl) hW hS hf

abbrev rm_X5_wrongField : Room := { frames := 5, cells := 0, slots := 0, locals := 149 }
def f_X5_wrongField_181 (Y : Ly) (Kn : Int32 → Mm → Prop) (M44 : Mm) (y46 : Int32) : Prop :=
  Kn y46 M44
def f_X5_wrongField (Y : Ly) (v0 : Nat) (M : Mm) (Kn : Int32 → Mm → Prop) : Prop :=
  f_X0_countOf Y v0 0 M (fun r2 M1 => (∀ x3 : Int64, x3 = r2.toInt64 → (f_X0_producerOf Y v0 0 M1 (fun r5 M4 => (f_X0_baseOf Y v0 0 M4 (fun r7 M6 => ((r7 = 0 → (f_X1_signed Y v0 12 4 M6 (fun r10 M9 => ((r10 = 0 → (yK Y v0 = 100 ∧ (vp_in 16 (yN Y v0) ∧ (((mI M9 v0 (16 : Int32).toNatClampNeg) = 2 → (f_X1_signed Y v0 21 2 M9 (fun r16 M15 => ((r16 = 0 → (f_X0_lastOf Y v0 0 M15 (fun r19 M18 => ((r19.toInt64 = (x3 - 1) → (f_X0_firstTimeOf Y v0 0 M18 (fun r22 M21 => (f_X11_isWithin Y r22 0 1125899906842624 M21 (fun r24 M23 => ((¬ r24 = 0 → (f_X0_greatestTimeOf Y v0 0 M23 (fun r27 M26 => (f_X11_isWithin Y r27 0 1125899906842624 M26 (fun r29 M28 => ((¬ r29 = 0 → (f_X11_isWithin Y r5 (-1) 1125899906842624 M28 (fun r32 M31 => ((¬ r32 = 0 → (f_X0_epochOf Y v0 0 M31 (fun r35 M34 => (f_X5_isProducersNumber Y r5 r35 M34 (fun r37 M36 => ((¬ r37 = 0 → (f_X0_sequenceOf Y v0 0 M36 (fun r40 M39 => (f_X5_isProducersNumber Y r5 r40 M39 (fun r42 M41 => ((¬ r42 = 0 → (f_X11_isWithin Y x3 1 1000 M41 (fun r45 M44 => ((r45 = 0 → (f_X5_wrongField_181 Y Kn M44 57)) ∧ (¬ (r45 = 0) → (f_X5_wrongField_181 Y Kn M44 (-1))))))) ∧ (r42 = 0 → (Kn 53 M41)))))))) ∧ (r37 = 0 → (Kn 51 M36)))))))) ∧ (r32 = 0 → (Kn 43 M31)))))) ∧ (r29 = 0 → (Kn 35 M28)))))))) ∧ (r24 = 0 → (Kn 27 M23)))))))) ∧ (¬ (r19.toInt64 = (x3 - 1)) → (Kn 23 M18)))))) ∧ (¬ (r16 = 0) → (Kn 21 M15)))))) ∧ (¬ ((mI M9 v0 (16 : Int32).toNatClampNeg) = 2) → (Kn 16 M9)))))) ∧ (¬ (r10 = 0) → (Kn 12 M9)))))) ∧ (¬ (r7 = 0) → (Kn 0 M6)))))))))
set_option maxHeartbeats 4000000 in
set_option maxRecDepth 100000 in
theorem m_X5_wrongField (l : Launch) (D : va_G) (cy : Cy) (tq sz : Nat) (Y : Ly) (v0 : Nat) (M : Mm) (Kn : Int32 → Mm → Prop) : Met l yX5_wrongField (Cond.code yX5_wrongField cX5_wrongField 5 (some .int) :: TT) rm_X5_wrongField (PcG D cy tq [.ref v0] sz Y M (f_X5_wrongField Y v0 M Kn)) (va_Qi Kn (BG D cy (Am Y sz) Y) (Am Y sz)) 0 0 (Am Y sz) := by
  refine Met.ofW (cc := cX5_wrongField) (maxL := 5) (ret := (some .int)) (by decide) rfl ?_
  intro p e s m args below meth c s₁ B hml hv
  obtain ⟨hargs, hsz, hW, hK, hC, hf⟩ := hv
  subst hsz
  have hx := B.exec
  have hb := B.bytes
  have hr := B.returns
  have hts : ∀ w ∈ TT, w.before args s = true := fun w h => atoms_spec (ws := Cond.code yX5_wrongField cX5_wrongField 5 (some .int) :: TT) B.pre w (List.mem_cons_of_mem _ h)
  have hown : s.vm.findClass RX5 = some m.cls := findClass_of_methodNamed B.named
  have hlocks := B.notSynchronized
  replace hW := Wd_self (sz := s.heap.size) hW
  generalize hAe : Am Y s.heap.size = A at hW hC ⊢
  have hA : ∀ q : Nat, s.heap.size ≤ q → A q := fun q h => by rw [← hAe]; exact Or.inr h
  clear hAe
  have hS : va_S A s.heap s.heap [] := va_S.rf
  obtain ⟨ls, hE, hl⟩ := gm_entry m [.ref v0] (n := 5) hargs (Nat.le_of_ble_eq_true rfl)
  rw [hE]
  have hl : lv_has ls 5 [(0, .ref v0)] := hl
  show W p l e rm_X5_wrongField s m args below meth c s.heap [] 0 0 (MQ below (va_Qi Kn (BG D cy A Y) A) args s 0 0 A) (F0 m 0 ls [])
  unfold f_X5_wrongField at hf
  refine lv_aload_n hx hb dX5_wrongField_0 rfl (lv_at hl 0 rfl) ?_
  refine lv_iconst (v := 0) hx hb dX5_wrongField_1 (by decide +kernel) ?_
  refine gm_ci (va_runS (As := [.ref v0, .int 0]) (rest := []) ⟨hx, hb, hml, hown, hts⟩ (m_X0_countOf l D cy tq _ Y _ _ _ _) (va_cwS 2 hts (good_S kw_781 kw_782 kw_20 kw_783) rfl rfl rfl (by decide +kernel) ⟨Nat.le_of_ble_eq_true rfl, Nat.le_of_ble_eq_true rfl⟩) (gm_preS hK hW hC hS hA hf) rfl rfl hl.1 rfl (lv_room (Nat.le_of_ble_eq_true rfl)) dX5_wrongField_2 ⟨Nat.le_of_ble_eq_true rfl, Nat.le_of_ble_eq_true rfl⟩) hW hS hA (fun r2 M1 H locs hW hS hf => ?_)
  refine lv_i2l hx hb dX5_wrongField_5 rfl ?_
  refine lv_topl (fun x3 ex3 => ?_)
  replace hf := hf x3 ex3
  refine lv_lstore_n (lv' := [(1, .long x3), (0, .ref v0)]) hx hb dX5_wrongField_6 rfl hl (by decide) rfl (fun ls hl => ?_)
  refine lv_aload_n hx hb dX5_wrongField_7 rfl (lv_at hl 1 rfl) ?_
  refine lv_iconst (v := 0) hx hb dX5_wrongField_8 (by decide +kernel) ?_
  refine gm_cl (va_runS (As := [.ref v0, .int 0]) (rest := []) ⟨hx, hb, hml, hown, hts⟩ (m_X0_producerOf l D cy tq _ Y _ _ _ _) (va_cwS 2 hts (good_S kw_784 kw_785 kw_20 kw_786) rfl rfl rfl (by decide +kernel) ⟨Nat.le_of_ble_eq_true rfl, Nat.le_of_ble_eq_true rfl⟩) (gm_preS hK hW hC hS hA hf) rfl rfl hl.1 rfl (lv_room (Nat.le_of_ble_eq_true rfl)) dX5_wrongField_9 ⟨Nat.le_of_ble_eq_true rfl, Nat.le_of_ble_eq_true rfl⟩) hW hS hA (fun r5 M4 H locs hW hS hf => ?_)
  refine lv_lstore_n (lv' := [(3, .long r5), (1, .long x3), (0, .ref v0)]) hx hb dX5_wrongField_12 rfl hl (by decide) rfl (fun ls hl => ?_)
  refine lv_aload_n hx hb dX5_wrongField_13 rfl (lv_at hl 2 rfl) ?_
  refine lv_iconst (v := 0) hx hb dX5_wrongField_14 (by decide +kernel) ?_
  refine gm_cl (va_runS (As := [.ref v0, .int 0]) (rest := []) ⟨hx, hb, hml, hown, hts⟩ (m_X0_baseOf l D cy tq _ Y _ _ _ _) (va_cwS 2 hts (good_S kw_787 kw_788 kw_20 kw_789) rfl rfl rfl (by decide +kernel) ⟨Nat.le_of_ble_eq_true rfl, Nat.le_of_ble_eq_true rfl⟩) (gm_preS hK hW hC hS hA hf) rfl rfl hl.1 rfl (lv_room (Nat.le_of_ble_eq_true rfl)) dX5_wrongField_15 ⟨Nat.le_of_ble_eq_true rfl, Nat.le_of_ble_eq_true rfl⟩) hW hS hA (fun r7 M6 H locs hW hS hf => ?_)
  refine lv_lconst (v := 0) hx hb dX5_wrongField_18 (by decide) ?_
  refine W.lcmp hx hb dX5_wrongField_19 ?_
  refine lv_if_eq (tgt := 25) hx hb dX5_wrongField_20 (by decide) (fun c8 => ?_) (fun c8 => ?_)
  · replace hf := hf.1 (lg_eq.mp c8)
    refine lv_aload_n hx hb dX5_wrongField_25 rfl (lv_at hl 2 rfl) ?_
    refine lv_bipush (v := 12) hx hb dX5_wrongField_26 (by decide +kernel) ?_
    refine lv_iconst (v := 4) hx hb dX5_wrongField_28 (by decide +kernel) ?_
    refine gm_cl (va_runS (As := [.ref v0, .int 12, .int 4]) (rest := []) ⟨hx, hb, hml, hown, hts⟩ (m_X1_signed l D cy tq _ Y _ _ _ _ _) (va_cwS 3 hts (good_S kw_790 kw_329 kw_17 kw_330) rfl rfl rfl (by decide +kernel) ⟨Nat.le_of_ble_eq_true rfl, Nat.le_of_ble_eq_true rfl⟩) (gm_preS hK hW hC hS hA hf) rfl rfl hl.1 rfl (lv_room (Nat.le_of_ble_eq_true rfl)) dX5_wrongField_29 ⟨Nat.le_of_ble_eq_true rfl, Nat.le_of_ble_eq_true rfl⟩) hW hS hA (fun r10 M9 H locs hW hS hf => ?_)
    refine lv_lconst (v := 0) hx hb dX5_wrongField_32 (by decide) ?_
    refine W.lcmp hx hb dX5_wrongField_33 ?_
    refine lv_if_eq (tgt := 40) hx hb dX5_wrongField_34 (by decide) (fun c11 => ?_) (fun c11 => ?_)
    · replace hf := hf.1 (lg_eq.mp c11)
      refine lv_aload_n hx hb dX5_wrongField_40 rfl (lv_at hl 2 rfl) ?_
      refine lv_bipush (v := 16) hx hb dX5_wrongField_41 (by decide +kernel) ?_
      obtain ⟨k12, hf⟩ := hf
      obtain ⟨h13, hf⟩ := hf
      refine gm_bald hx hb hK hW k12 h13 dX5_wrongField_43 ?_
      refine lv_iconst (v := 2) hx hb dX5_wrongField_44 (by decide +kernel) ?_
      refine lv_icmp_eq (tgt := 51) hx hb dX5_wrongField_45 (by decide) (fun c14 => ?_) (fun c14 => ?_)
      · replace hf := hf.1 c14
        refine lv_aload_n hx hb dX5_wrongField_51 rfl (lv_at hl 2 rfl) ?_
        refine lv_bipush (v := 21) hx hb dX5_wrongField_52 (by decide +kernel) ?_
        refine lv_iconst (v := 2) hx hb dX5_wrongField_54 (by decide +kernel) ?_
        refine gm_cl (va_runS (As := [.ref v0, .int 21, .int 2]) (rest := []) ⟨hx, hb, hml, hown, hts⟩ (m_X1_signed l D cy tq _ Y _ _ _ _ _) (va_cwS 3 hts (good_S kw_790 kw_329 kw_17 kw_330) rfl rfl rfl (by decide +kernel) ⟨Nat.le_of_ble_eq_true rfl, Nat.le_of_ble_eq_true rfl⟩) (gm_preS hK hW hC hS hA hf) rfl rfl hl.1 rfl (lv_room (Nat.le_of_ble_eq_true rfl)) dX5_wrongField_55 ⟨Nat.le_of_ble_eq_true rfl, Nat.le_of_ble_eq_true rfl⟩) hW hS hA (fun r16 M15 H locs hW hS hf => ?_)
        refine lv_lconst (v := 0) hx hb dX5_wrongField_58 (by decide) ?_
        refine W.lcmp hx hb dX5_wrongField_59 ?_
        refine lv_if_eq (tgt := 66) hx hb dX5_wrongField_60 (by decide) (fun c17 => ?_) (fun c17 => ?_)
        · replace hf := hf.1 (lg_eq.mp c17)
          refine lv_aload_n hx hb dX5_wrongField_66 rfl (lv_at hl 2 rfl) ?_
          refine lv_iconst (v := 0) hx hb dX5_wrongField_67 (by decide +kernel) ?_
          refine gm_ci (va_runS (As := [.ref v0, .int 0]) (rest := []) ⟨hx, hb, hml, hown, hts⟩ (m_X0_lastOf l D cy tq _ Y _ _ _ _) (va_cwS 2 hts (good_S kw_791 kw_792 kw_20 kw_793) rfl rfl rfl (by decide +kernel) ⟨Nat.le_of_ble_eq_true rfl, Nat.le_of_ble_eq_true rfl⟩) (gm_preS hK hW hC hS hA hf) rfl rfl hl.1 rfl (lv_room (Nat.le_of_ble_eq_true rfl)) dX5_wrongField_68 ⟨Nat.le_of_ble_eq_true rfl, Nat.le_of_ble_eq_true rfl⟩) hW hS hA (fun r19 M18 H locs hW hS hf => ?_)
          refine lv_i2l hx hb dX5_wrongField_71 rfl ?_
          refine lv_lload_n hx hb dX5_wrongField_72 rfl (lv_at hl 1 rfl) ?_
          refine lv_lconst (v := 1) hx hb dX5_wrongField_73 (by decide) ?_
          refine lv_lsub hx hb dX5_wrongField_74 ?_
          refine W.lcmp hx hb dX5_wrongField_75 ?_
          refine lv_if_eq (tgt := 82) hx hb dX5_wrongField_76 (by decide) (fun c20 => ?_) (fun c20 => ?_)
          · replace hf := hf.1 (lg_eq.mp c20)
            refine lv_aload_n hx hb dX5_wrongField_82 rfl (lv_at hl 2 rfl) ?_
            refine lv_iconst (v := 0) hx hb dX5_wrongField_83 (by decide +kernel) ?_
            refine gm_cl (va_runS (As := [.ref v0, .int 0]) (rest := []) ⟨hx, hb, hml, hown, hts⟩ (m_X0_firstTimeOf l D cy tq _ Y _ _ _ _) (va_cwS 2 hts (good_S kw_794 kw_795 kw_20 kw_796) rfl rfl rfl (by decide +kernel) ⟨Nat.le_of_ble_eq_true rfl, Nat.le_of_ble_eq_true rfl⟩) (gm_preS hK hW hC hS hA hf) rfl rfl hl.1 rfl (lv_room (Nat.le_of_ble_eq_true rfl)) dX5_wrongField_84 ⟨Nat.le_of_ble_eq_true rfl, Nat.le_of_ble_eq_true rfl⟩) hW hS hA (fun r22 M21 H locs hW hS hf => ?_)
            refine lv_lconst (v := 0) hx hb dX5_wrongField_87 (by decide) ?_
            refine lv_ldc2 (v := 1125899906842624) hx hb hown (hts _ kw_797) dX5_wrongField_88 ?_
            refine gm_ci (va_runSN (As := [.long r22, .long 0, .long 1125899906842624]) (rest := []) ⟨hx, hb, hml, hown, hts⟩ (m_X11_isWithin l D cy tq _ Y _ _ _ _ _) ⟨va_cnB 3 hts (good_C kw_462) rfl rfl rfl hC.2.2.1 (hts _ kw_1) (by decide +kernel) ⟨Nat.le_of_ble_eq_true rfl, Nat.le_of_ble_eq_true rfl⟩, hts _ kw_461, trivial⟩ (gm_preS hK hW hC hS hA hf) rfl rfl hl.1 rfl (lv_room (Nat.le_of_ble_eq_true rfl)) dX5_wrongField_91 ⟨Nat.le_of_ble_eq_true rfl, Nat.le_of_ble_eq_true rfl⟩) hW hS hA (fun r24 M23 H locs hW hS hf => ?_)
            refine lv_if_ne (tgt := 100) hx hb dX5_wrongField_94 (by decide) (fun c25 => ?_) (fun c25 => ?_)
            · replace hf := hf.1 c25
              refine lv_aload_n hx hb dX5_wrongField_100 rfl (lv_at hl 2 rfl) ?_
              refine lv_iconst (v := 0) hx hb dX5_wrongField_101 (by decide +kernel) ?_
              refine gm_cl (va_runS (As := [.ref v0, .int 0]) (rest := []) ⟨hx, hb, hml, hown, hts⟩ (m_X0_greatestTimeOf l D cy tq _ Y _ _ _ _) (va_cwS 2 hts (good_S kw_798 kw_799 kw_20 kw_800) rfl rfl rfl (by decide +kernel) ⟨Nat.le_of_ble_eq_true rfl, Nat.le_of_ble_eq_true rfl⟩) (gm_preS hK hW hC hS hA hf) rfl rfl hl.1 rfl (lv_room (Nat.le_of_ble_eq_true rfl)) dX5_wrongField_102 ⟨Nat.le_of_ble_eq_true rfl, Nat.le_of_ble_eq_true rfl⟩) hW hS hA (fun r27 M26 H locs hW hS hf => ?_)
              refine lv_lconst (v := 0) hx hb dX5_wrongField_105 (by decide) ?_
              refine lv_ldc2 (v := 1125899906842624) hx hb hown (hts _ kw_797) dX5_wrongField_106 ?_
              refine gm_ci (va_runSN (As := [.long r27, .long 0, .long 1125899906842624]) (rest := []) ⟨hx, hb, hml, hown, hts⟩ (m_X11_isWithin l D cy tq _ Y _ _ _ _ _) ⟨va_cnB 3 hts (good_C kw_462) rfl rfl rfl hC.2.2.1 (hts _ kw_1) (by decide +kernel) ⟨Nat.le_of_ble_eq_true rfl, Nat.le_of_ble_eq_true rfl⟩, hts _ kw_461, trivial⟩ (gm_preS hK hW hC hS hA hf) rfl rfl hl.1 rfl (lv_room (Nat.le_of_ble_eq_true rfl)) dX5_wrongField_109 ⟨Nat.le_of_ble_eq_true rfl, Nat.le_of_ble_eq_true rfl⟩) hW hS hA (fun r29 M28 H locs hW hS hf => ?_)
              refine lv_if_ne (tgt := 118) hx hb dX5_wrongField_112 (by decide) (fun c30 => ?_) (fun c30 => ?_)
              · replace hf := hf.1 c30
                refine lv_lload_n hx hb dX5_wrongField_118 rfl (lv_at hl 0 rfl) ?_
                refine lv_ldc2 (v := -1) hx hb hown (hts _ kw_801) dX5_wrongField_119 ?_
                refine lv_ldc2 (v := 1125899906842624) hx hb hown (hts _ kw_797) dX5_wrongField_122 ?_
                refine gm_ci (va_runSN (As := [.long r5, .long (-1), .long 1125899906842624]) (rest := []) ⟨hx, hb, hml, hown, hts⟩ (m_X11_isWithin l D cy tq _ Y _ _ _ _ _) ⟨va_cnB 3 hts (good_C kw_462) rfl rfl rfl hC.2.2.1 (hts _ kw_1) (by decide +kernel) ⟨Nat.le_of_ble_eq_true rfl, Nat.le_of_ble_eq_true rfl⟩, hts _ kw_461, trivial⟩ (gm_preS hK hW hC hS hA hf) rfl rfl hl.1 rfl (lv_room (Nat.le_of_ble_eq_true rfl)) dX5_wrongField_125 ⟨Nat.le_of_ble_eq_true rfl, Nat.le_of_ble_eq_true rfl⟩) hW hS hA (fun r32 M31 H locs hW hS hf => ?_)
                refine lv_if_ne (tgt := 134) hx hb dX5_wrongField_128 (by decide) (fun c33 => ?_) (fun c33 => ?_)
                · replace hf := hf.1 c33
                  refine lv_lload_n hx hb dX5_wrongField_134 rfl (lv_at hl 0 rfl) ?_
                  refine lv_aload_n hx hb dX5_wrongField_135 rfl (lv_at hl 2 rfl) ?_
                  refine lv_iconst (v := 0) hx hb dX5_wrongField_136 (by decide +kernel) ?_
                  refine gm_ci (va_runS (As := [.ref v0, .int 0]) (rest := [.long r5]) ⟨hx, hb, hml, hown, hts⟩ (m_X0_epochOf l D cy tq _ Y _ _ _ _) (va_cwS 2 hts (good_S kw_802 kw_803 kw_20 kw_804) rfl rfl rfl (by decide +kernel) ⟨Nat.le_of_ble_eq_true rfl, Nat.le_of_ble_eq_true rfl⟩) (gm_preS hK hW hC hS hA hf) rfl rfl hl.1 rfl (lv_room (Nat.le_of_ble_eq_true rfl)) dX5_wrongField_137 ⟨Nat.le_of_ble_eq_true rfl, Nat.le_of_ble_eq_true rfl⟩) hW hS hA (fun r35 M34 H locs hW hS hf => ?_)
                  refine gm_ci (va_runS (As := [.long r5, .int r35]) (rest := []) ⟨hx, hb, hml, hown, hts⟩ (m_X5_isProducersNumber l D cy tq _ Y _ _ _ _) (va_cwS 2 hts (good_S kw_805 kw_806 kw_3 kw_807) rfl rfl rfl (by decide +kernel) ⟨Nat.le_of_ble_eq_true rfl, Nat.le_of_ble_eq_true rfl⟩) (gm_preS hK hW hC hS hA hf) rfl rfl hl.1 rfl (lv_room (Nat.le_of_ble_eq_true rfl)) dX5_wrongField_140 ⟨Nat.le_of_ble_eq_true rfl, Nat.le_of_ble_eq_true rfl⟩) hW hS hA (fun r37 M36 H locs hW hS hf => ?_)
                  refine lv_if_ne (tgt := 149) hx hb dX5_wrongField_143 (by decide) (fun c38 => ?_) (fun c38 => ?_)
                  · replace hf := hf.1 c38
                    refine lv_lload_n hx hb dX5_wrongField_149 rfl (lv_at hl 0 rfl) ?_
                    refine lv_aload_n hx hb dX5_wrongField_150 rfl (lv_at hl 2 rfl) ?_
                    refine lv_iconst (v := 0) hx hb dX5_wrongField_151 (by decide +kernel) ?_
                    refine gm_ci (va_runS (As := [.ref v0, .int 0]) (rest := [.long r5]) ⟨hx, hb, hml, hown, hts⟩ (m_X0_sequenceOf l D cy tq _ Y _ _ _ _) (va_cwS 2 hts (good_S kw_808 kw_809 kw_20 kw_810) rfl rfl rfl (by decide +kernel) ⟨Nat.le_of_ble_eq_true rfl, Nat.le_of_ble_eq_true rfl⟩) (gm_preS hK hW hC hS hA hf) rfl rfl hl.1 rfl (lv_room (Nat.le_of_ble_eq_true rfl)) dX5_wrongField_152 ⟨Nat.le_of_ble_eq_true rfl, Nat.le_of_ble_eq_true rfl⟩) hW hS hA (fun r40 M39 H locs hW hS hf => ?_)
                    refine gm_ci (va_runS (As := [.long r5, .int r40]) (rest := []) ⟨hx, hb, hml, hown, hts⟩ (m_X5_isProducersNumber l D cy tq _ Y _ _ _ _) (va_cwS 2 hts (good_S kw_805 kw_806 kw_3 kw_807) rfl rfl rfl (by decide +kernel) ⟨Nat.le_of_ble_eq_true rfl, Nat.le_of_ble_eq_true rfl⟩) (gm_preS hK hW hC hS hA hf) rfl rfl hl.1 rfl (lv_room (Nat.le_of_ble_eq_true rfl)) dX5_wrongField_155 ⟨Nat.le_of_ble_eq_true rfl, Nat.le_of_ble_eq_true rfl⟩) hW hS hA (fun r42 M41 H locs hW hS hf => ?_)
                    refine lv_if_ne (tgt := 164) hx hb dX5_wrongField_158 (by decide) (fun c43 => ?_) (fun c43 => ?_)
                    · replace hf := hf.1 c43
                      refine lv_lload_n hx hb dX5_wrongField_164 rfl (lv_at hl 1 rfl) ?_
                      refine lv_lconst (v := 1) hx hb dX5_wrongField_165 (by decide) ?_
                      refine lv_ldc2 (v := 1000) hx hb hown (hts _ kw_811) dX5_wrongField_166 ?_
                      refine gm_ci (va_runSN (As := [.long x3, .long 1, .long 1000]) (rest := []) ⟨hx, hb, hml, hown, hts⟩ (m_X11_isWithin l D cy tq _ Y _ _ _ _ _) ⟨va_cnB 3 hts (good_C kw_462) rfl rfl rfl hC.2.2.1 (hts _ kw_1) (by decide +kernel) ⟨Nat.le_of_ble_eq_true rfl, Nat.le_of_ble_eq_true rfl⟩, hts _ kw_461, trivial⟩ (gm_preS hK hW hC hS hA hf) rfl rfl hl.1 rfl (lv_room (Nat.le_of_ble_eq_true rfl)) dX5_wrongField_169 ⟨Nat.le_of_ble_eq_true rfl, Nat.le_of_ble_eq_true rfl⟩) hW hS hA (fun r45 M44 H locs hW hS hf => ?_)
                      have j181 : ∀ (y46 : Int32) (H : Heap) (locs : List Loc) (ls : Array Slot), lv_has ls 5 [] → Wd D cy A Y M44 H → va_S A s.heap H locs → f_X5_wrongField_181 Y Kn M44 y46 → W p l e rm_X5_wrongField s m args below meth c H locs 0 0 (MQ below (va_Qi Kn (BG D cy A Y) A) args s 0 0 A) (F0 m 181 ls [.int y46]) := by
                        intro y46 H locs ls hl hW hS hf
                        unfold f_X5_wrongField_181 at hf
                        exact gm_iret hx hb hr hlocks hW hS hf dX5_wrongField_181
                      refine lv_if_eq (tgt := 179) hx hb dX5_wrongField_172 (by decide) (fun c47 => ?_) (fun c47 => ?_)
                      · replace hf := hf.1 c47
                        refine lv_bipush (v := 57) hx hb dX5_wrongField_179 (by decide +kernel) ?_
                        exact j181 _ _ _ _ (lv_sub hl [] rfl) hW hS hf
                      · replace hf := hf.2 c47
                        refine lv_iconst (v := -1) hx hb dX5_wrongField_175 (by decide +kernel) ?_
                        refine lv_goto (tgt := 181) hx hb dX5_wrongField_176 (by decide) ?_
                        exact j181 _ _ _ _ (lv_sub hl [] rfl) hW hS hf
                    · replace hf := hf.2 c43
                      refine lv_bipush (v := 53) hx hb dX5_wrongField_161 (by decide +kernel) ?_
                      exact gm_iret hx hb hr hlocks hW hS hf dX5_wrongField_163
                  · replace hf := hf.2 c38
                    refine lv_bipush (v := 51) hx hb dX5_wrongField_146 (by decide +kernel) ?_
                    exact gm_iret hx hb hr hlocks hW hS hf dX5_wrongField_148
                · replace hf := hf.2 c33
                  refine lv_bipush (v := 43) hx hb dX5_wrongField_131 (by decide +kernel) ?_
                  exact gm_iret hx hb hr hlocks hW hS hf dX5_wrongField_133
              · replace hf := hf.2 c30
                refine lv_bipush (v := 35) hx hb dX5_wrongField_115 (by decide +kernel) ?_
                exact gm_iret hx hb hr hlocks hW hS hf dX5_wrongField_117
            · replace hf := hf.2 c25
              refine lv_bipush (v := 27) hx hb dX5_wrongField_97 (by decide +kernel) ?_
              exact gm_iret hx hb hr hlocks hW hS hf dX5_wrongField_99
          · replace hf := hf.2 (fun z => c20 (lg_eq.mpr z))
            refine lv_bipush (v := 23) hx hb dX5_wrongField_79 (by decide +kernel) ?_
            exact gm_iret hx hb hr hlocks hW hS hf dX5_wrongField_81
        · replace hf := hf.2 (fun z => c17 (lg_eq.mpr z))
          refine lv_bipush (v := 21) hx hb dX5_wrongField_63 (by decide +kernel) ?_
          exact gm_iret hx hb hr hlocks hW hS hf dX5_wrongField_65
      · replace hf := hf.2 c14
        refine lv_bipush (v := 16) hx hb dX5_wrongField_48 (by decide +kernel) ?_
        exact gm_iret hx hb hr hlocks hW hS hf dX5_wrongField_50
    · replace hf := hf.2 (fun z => c11 (lg_eq.mpr z))
      refine lv_bipush (v := 12) hx hb dX5_wrongField_37 (by decide +kernel) ?_
      exact gm_iret hx hb hr hlocks hW hS hf dX5_wrongField_39
  · replace hf := hf.2 (fun z => c8 (lg_eq.mpr z))
    refine lv_iconst (v := 0) hx hb dX5_wrongField_23 (by decide +kernel) ?_
    exact gm_iret hx hb hr hlocks hW hS hf dX5_wrongField_24

abbrev rm_X5_examine : Room := { frames := 6, cells := 0, slots := 0, locals := 187 }
def f_X5_examine_21 (Y : Ly) (v0 : Nat) (Kn : Mm → Prop) (M3 : Mm) : Prop :=
  f_X5_tell Y v0 1 8 M3 (fun M4 => (Kn M4))
def f_X5_examine_73 (Y : Ly) (Kn : Mm → Prop) (M11 : Mm) : Prop :=
  Kn M11
def f_X5_examine (Y : Ly) (v0 : Nat) (v1 : Nat) (v2 : Int32) (M : Mm) (Kn : Mm → Prop) : Prop :=
  yK Y v0 = 5 ∧ (f_X5_tell Y v0 0 (-1) M (fun M1 => ((v2 < 61 → (f_X5_examine_21 Y v0 Kn M1)) ∧ (¬ (v2 < 61) → (f_X0_sizeOf Y v1 0 M1 (fun r7 M6 => ((r7 = v2 → (f_X5_wrongField Y v1 M6 (fun r10 M9 => ((r10 = (-1) → (f_X0_hasTrueChecksum Y v1 0 v2 M9 (fun r14 M13 => ((¬ r14 = 0 → (f_X5_examineRecords Y v0 v1 v2 M13 (fun M16 => (f_X5_examine_73 Y Kn M16)))) ∧ (r14 = 0 → (f_X5_tell Y v0 3 17 M13 (fun M17 => (f_X5_examine_73 Y Kn M17)))))))) ∧ (¬ (r10 = (-1)) → (f_X5_tell Y v0 2 r10 M9 (fun M18 => (f_X5_examine_73 Y Kn M18)))))))) ∧ (¬ (r7 = v2) → (f_X5_examine_21 Y v0 Kn M6)))))))))
set_option maxHeartbeats 4000000 in
set_option maxRecDepth 100000 in
theorem m_X5_examine (l : Launch) (D : va_G) (cy : Cy) (tq sz : Nat) (Y : Ly) (v0 : Nat) (v1 : Nat) (v2 : Int32) (M : Mm) (Kn : Mm → Prop) : Met l yX5_examine (Cond.code yX5_examine cX5_examine 4 none :: TT) rm_X5_examine (PcG D cy tq [.ref v0, .ref v1, .int v2] sz Y M (f_X5_examine Y v0 v1 v2 M Kn)) (va_Qv Kn (BG D cy (Am Y sz) Y) (Am Y sz)) 0 0 (Am Y sz) := by
  refine Met.ofW (cc := cX5_examine) (maxL := 4) (ret := none) (by decide) rfl ?_
  intro p e s m args below meth c s₁ B hml hv
  obtain ⟨hargs, hsz, hW, hK, hC, hf⟩ := hv
  subst hsz
  have hx := B.exec
  have hb := B.bytes
  have hr := B.returns
  have hts : ∀ w ∈ TT, w.before args s = true := fun w h => atoms_spec (ws := Cond.code yX5_examine cX5_examine 4 none :: TT) B.pre w (List.mem_cons_of_mem _ h)
  have hown : s.vm.findClass RX5 = some m.cls := findClass_of_methodNamed B.named
  have hlocks := B.notSynchronized
  replace hW := Wd_self (sz := s.heap.size) hW
  generalize hAe : Am Y s.heap.size = A at hW hC ⊢
  have hA : ∀ q : Nat, s.heap.size ≤ q → A q := fun q h => by rw [← hAe]; exact Or.inr h
  clear hAe
  have hS : va_S A s.heap s.heap [] := va_S.rf
  obtain ⟨ls, hE, hl⟩ := gm_entry m [.ref v0, .ref v1, .int v2] (n := 4) hargs (Nat.le_of_ble_eq_true rfl)
  rw [hE]
  have hl : lv_has ls 4 [(0, .ref v0), (1, .ref v1), (2, .int v2)] := hl
  show W p l e rm_X5_examine s m args below meth c s.heap [] 0 0 (MQ below (va_Qv Kn (BG D cy A Y) A) args s 0 0 A) (F0 m 0 ls [])
  unfold f_X5_examine at hf
  refine lv_aload_n hx hb dX5_examine_0 rfl (lv_at hl 0 rfl) ?_
  refine lv_iconst (v := 0) hx hb dX5_examine_1 (by decide +kernel) ?_
  refine lv_iconst (v := -1) hx hb dX5_examine_2 (by decide +kernel) ?_
  obtain ⟨k2, hf⟩ := hf
  refine gm_cv (va_runV (As := [.int 0, .int (-1)]) (rest := []) ⟨hx, hb, hml, hown, hts⟩ (m_X5_tell l D cy tq _ Y _ _ _ _ _) (cwV 2 hts (good_V kw_774 kw_775 kw_1789 kw_3 kw_776) rfl rfl rfl (by decide +kernel) ⟨Nat.le_of_ble_eq_true rfl, Nat.le_of_ble_eq_true rfl⟩) (gm_preV hK hW hC hS hA k2 (by decide) (q := (RX5, TX5, 3)) rfl rfl hf) rfl rfl hl.1 rfl (lv_room (Nat.le_of_ble_eq_true rfl)) dX5_examine_3 ⟨Nat.le_of_ble_eq_true rfl, Nat.le_of_ble_eq_true rfl⟩) hW hS hA (fun M1 H locs hW hS hf => ?_)
  refine lv_iload_n hx hb dX5_examine_6 rfl (lv_at hl 2 rfl) ?_
  refine lv_bipush (v := 61) hx hb dX5_examine_7 (by decide +kernel) ?_
  have j21 : ∀ (M3 : Mm) (H : Heap) (locs : List Loc) (ls : Array Slot), lv_has ls 4 [(0, .ref v0)] → Wd D cy A Y M3 H → va_S A s.heap H locs → f_X5_examine_21 Y v0 Kn M3 → W p l e rm_X5_examine s m args below meth c H locs 0 0 (MQ below (va_Qv Kn (BG D cy A Y) A) args s 0 0 A) (F0 m 21 ls []) := by
    intro M3 H locs ls hl hW hS hf
    unfold f_X5_examine_21 at hf
    refine lv_aload_n hx hb dX5_examine_21 rfl (lv_at hl 0 rfl) ?_
    refine lv_iconst (v := 1) hx hb dX5_examine_22 (by decide +kernel) ?_
    refine lv_bipush (v := 8) hx hb dX5_examine_23 (by decide +kernel) ?_
    refine gm_cv (va_runV (As := [.int 1, .int 8]) (rest := []) ⟨hx, hb, hml, hown, hts⟩ (m_X5_tell l D cy tq _ Y _ _ _ _ _) (cwV 2 hts (good_V kw_774 kw_775 kw_1789 kw_3 kw_776) rfl rfl rfl (by decide +kernel) ⟨Nat.le_of_ble_eq_true rfl, Nat.le_of_ble_eq_true rfl⟩) (gm_preV hK hW hC hS hA k2 (by decide) (q := (RX5, TX5, 3)) rfl rfl hf) rfl rfl hl.1 rfl (lv_room (Nat.le_of_ble_eq_true rfl)) dX5_examine_25 ⟨Nat.le_of_ble_eq_true rfl, Nat.le_of_ble_eq_true rfl⟩) hW hS hA (fun M4 H locs hW hS hf => ?_)
    exact gm_vret hx hb hr hlocks hW hS hf dX5_examine_28
  refine lv_icmp_lt (tgt := 21) hx hb dX5_examine_9 (by decide) (fun c5 => ?_) (fun c5 => ?_)
  · replace hf := hf.1 c5
    exact j21 _ _ _ _ (lv_sub hl [0] rfl) hW hS hf
  · replace hf := hf.2 c5
    refine lv_aload_n hx hb dX5_examine_12 rfl (lv_at hl 1 rfl) ?_
    refine lv_iconst (v := 0) hx hb dX5_examine_13 (by decide +kernel) ?_
    refine gm_ci (va_runS (As := [.ref v1, .int 0]) (rest := []) ⟨hx, hb, hml, hown, hts⟩ (m_X0_sizeOf l D cy tq _ Y _ _ _ _) (va_cwS 2 hts (good_S kw_777 kw_355 kw_20 kw_356) rfl rfl rfl (by decide +kernel) ⟨Nat.le_of_ble_eq_true rfl, Nat.le_of_ble_eq_true rfl⟩) (gm_preS hK hW hC hS hA hf) rfl rfl hl.1 rfl (lv_room (Nat.le_of_ble_eq_true rfl)) dX5_examine_14 ⟨Nat.le_of_ble_eq_true rfl, Nat.le_of_ble_eq_true rfl⟩) hW hS hA (fun r7 M6 H locs hW hS hf => ?_)
    refine lv_iload_n hx hb dX5_examine_17 rfl (lv_at hl 2 rfl) ?_
    refine lv_icmp_eq (tgt := 29) hx hb dX5_examine_18 (by decide) (fun c8 => ?_) (fun c8 => ?_)
    · replace hf := hf.1 c8
      refine lv_aload_n hx hb dX5_examine_29 rfl (lv_at hl 1 rfl) ?_
      refine gm_ci (va_runS (As := [.ref v1]) (rest := []) ⟨hx, hb, hml, hown, hts⟩ (m_X5_wrongField l D cy tq _ Y _ _ _) (va_cwS 1 hts (good_S kw_778 kw_779 kw_3 kw_780) rfl rfl rfl (by decide +kernel) ⟨Nat.le_of_ble_eq_true rfl, Nat.le_of_ble_eq_true rfl⟩) (gm_preS hK hW hC hS hA hf) rfl rfl hl.1 rfl (lv_room (Nat.le_of_ble_eq_true rfl)) dX5_examine_30 ⟨Nat.le_of_ble_eq_true rfl, Nat.le_of_ble_eq_true rfl⟩) hW hS hA (fun r10 M9 H locs hW hS hf => ?_)
      refine lv_istore_n (lv' := [(3, .int r10), (0, .ref v0), (1, .ref v1), (2, .int v2)]) hx hb dX5_examine_33 rfl hl (by decide) rfl (fun ls hl => ?_)
      refine lv_iload_n hx hb dX5_examine_34 rfl (lv_at hl 0 rfl) ?_
      refine lv_iconst (v := -1) hx hb dX5_examine_35 (by decide +kernel) ?_
      have j73 : ∀ (M11 : Mm) (H : Heap) (locs : List Loc) (ls : Array Slot), lv_has ls 4 [] → Wd D cy A Y M11 H → va_S A s.heap H locs → f_X5_examine_73 Y Kn M11 → W p l e rm_X5_examine s m args below meth c H locs 0 0 (MQ below (va_Qv Kn (BG D cy A Y) A) args s 0 0 A) (F0 m 73 ls []) := by
        intro M11 H locs ls hl hW hS hf
        unfold f_X5_examine_73 at hf
        exact gm_vret hx hb hr hlocks hW hS hf dX5_examine_73
      refine lv_icmp_eq (tgt := 48) hx hb dX5_examine_36 (by decide) (fun c12 => ?_) (fun c12 => ?_)
      · replace hf := hf.1 c12
        refine lv_aload_n hx hb dX5_examine_48 rfl (lv_at hl 2 rfl) ?_
        refine lv_iconst (v := 0) hx hb dX5_examine_49 (by decide +kernel) ?_
        refine lv_iload_n hx hb dX5_examine_50 rfl (lv_at hl 3 rfl) ?_
        refine gm_ci (va_runS (As := [.ref v1, .int 0, .int v2]) (rest := []) ⟨hx, hb, hml, hown, hts⟩ (m_X0_hasTrueChecksum l D cy tq _ Y _ _ _ _ _) (va_cwS 3 hts (good_S kw_812 kw_813 kw_20 kw_814) rfl rfl rfl (by decide +kernel) ⟨Nat.le_of_ble_eq_true rfl, Nat.le_of_ble_eq_true rfl⟩) (gm_preS hK hW hC hS hA hf) rfl rfl hl.1 rfl (lv_room (Nat.le_of_ble_eq_true rfl)) dX5_examine_51 ⟨Nat.le_of_ble_eq_true rfl, Nat.le_of_ble_eq_true rfl⟩) hW hS hA (fun r14 M13 H locs hW hS hf => ?_)
        refine lv_if_ne (tgt := 67) hx hb dX5_examine_54 (by decide) (fun c15 => ?_) (fun c15 => ?_)
        · replace hf := hf.1 c15
          refine lv_aload_n hx hb dX5_examine_67 rfl (lv_at hl 1 rfl) ?_
          refine lv_aload_n hx hb dX5_examine_68 rfl (lv_at hl 2 rfl) ?_
          refine lv_iload_n hx hb dX5_examine_69 rfl (lv_at hl 3 rfl) ?_
          refine gm_cv (va_runV (As := [.ref v1, .int v2]) (rest := []) ⟨hx, hb, hml, hown, hts⟩ (m_X5_examineRecords l D cy tq _ Y _ _ _ _ _) (cwV 2 hts (good_V kw_815 kw_816 kw_1790 kw_3 kw_817) rfl rfl rfl (by decide +kernel) ⟨Nat.le_of_ble_eq_true rfl, Nat.le_of_ble_eq_true rfl⟩) (gm_preV hK hW hC hS hA k2 (by decide) (q := (RX5, TX5, 3)) rfl rfl hf) rfl rfl hl.1 rfl (lv_room (Nat.le_of_ble_eq_true rfl)) dX5_examine_70 ⟨Nat.le_of_ble_eq_true rfl, Nat.le_of_ble_eq_true rfl⟩) hW hS hA (fun M16 H locs hW hS hf => ?_)
          exact j73 _ _ _ _ (lv_sub hl [] rfl) hW hS hf
        · replace hf := hf.2 c15
          refine lv_aload_n hx hb dX5_examine_57 rfl (lv_at hl 1 rfl) ?_
          refine lv_iconst (v := 3) hx hb dX5_examine_58 (by decide +kernel) ?_
          refine lv_bipush (v := 17) hx hb dX5_examine_59 (by decide +kernel) ?_
          refine gm_cv (va_runV (As := [.int 3, .int 17]) (rest := []) ⟨hx, hb, hml, hown, hts⟩ (m_X5_tell l D cy tq _ Y _ _ _ _ _) (cwV 2 hts (good_V kw_774 kw_775 kw_1789 kw_3 kw_776) rfl rfl rfl (by decide +kernel) ⟨Nat.le_of_ble_eq_true rfl, Nat.le_of_ble_eq_true rfl⟩) (gm_preV hK hW hC hS hA k2 (by decide) (q := (RX5, TX5, 3)) rfl rfl hf) rfl rfl hl.1 rfl (lv_room (Nat.le_of_ble_eq_true rfl)) dX5_examine_61 ⟨Nat.le_of_ble_eq_true rfl, Nat.le_of_ble_eq_true rfl⟩) hW hS hA (fun M17 H locs hW hS hf => ?_)
          refine lv_goto (tgt := 73) hx hb dX5_examine_64 (by decide) ?_
          exact j73 _ _ _ _ (lv_sub hl [] rfl) hW hS hf
      · replace hf := hf.2 c12
        refine lv_aload_n hx hb dX5_examine_39 rfl (lv_at hl 1 rfl) ?_
        refine lv_iconst (v := 2) hx hb dX5_examine_40 (by decide +kernel) ?_
        refine lv_iload_n hx hb dX5_examine_41 rfl (lv_at hl 0 rfl) ?_
        refine gm_cv (va_runV (As := [.int 2, .int r10]) (rest := []) ⟨hx, hb, hml, hown, hts⟩ (m_X5_tell l D cy tq _ Y _ _ _ _ _) (cwV 2 hts (good_V kw_774 kw_775 kw_1789 kw_3 kw_776) rfl rfl rfl (by decide +kernel) ⟨Nat.le_of_ble_eq_true rfl, Nat.le_of_ble_eq_true rfl⟩) (gm_preV hK hW hC hS hA k2 (by decide) (q := (RX5, TX5, 3)) rfl rfl hf) rfl rfl hl.1 rfl (lv_room (Nat.le_of_ble_eq_true rfl)) dX5_examine_42 ⟨Nat.le_of_ble_eq_true rfl, Nat.le_of_ble_eq_true rfl⟩) hW hS hA (fun M18 H locs hW hS hf => ?_)
        refine lv_goto (tgt := 73) hx hb dX5_examine_45 (by decide) ?_
        exact j73 _ _ _ _ (lv_sub hl [] rfl) hW hS hf
    · replace hf := hf.2 c8
      exact j21 _ _ _ _ (lv_sub hl [0] rfl) hW hS hf

abbrev rm_X6_init : Room := { frames := 3, cells := 3, slots := 33314, locals := 100 }
def f_X6_init (Y : Ly) (v0 : Nat) (M : Mm) (Kn : Ly → Mm → Prop) : Prop :=
  ∀ q1 : Nat, yK Y q1 = 0 → ∀ Y2 : Ly, Y2 = yNew Y q1 100 32768 → ∀ M3 : Mm, M3 = mZ M q1 → (yK Y2 v0 = 6 ∧ (∀ M5 : Mm, M5 = sR M3 v0 (m1 (mR M3 v0) 0 (some q1)) → (∀ q6 : Nat, yK Y2 q6 = 0 → ∀ Y7 : Ly, Y7 = yNew Y2 q6 101 538 → ∀ M8 : Mm, M8 = mZ M5 q6 → (yK Y7 v0 = 6 ∧ (∀ M10 : Mm, M10 = sR M8 v0 (m1 (mR M8 v0) 3 (some q6)) → (∀ q11 : Nat, yK Y7 q11 = 0 → ∀ Y12 : Ly, Y12 = yNew Y7 q11 10 0 → ∀ M13 : Mm, M13 = mZ M10 q11 → (f_X10_init Y12 q11 M13 (fun Y14 M15 => (yK Y14 v0 = 6 ∧ (∀ M17 : Mm, M17 = sR M15 v0 (m1 (mR M15 v0) 5 (some q11)) → (Kn Y14 M17)))))))))))
set_option maxHeartbeats 4000000 in
set_option maxRecDepth 100000 in
theorem m_X6_init (l : Launch) (D : va_G) (cy : Cy) (tq sz : Nat) (Y : Ly) (v0 : Nat) (M : Mm) (Kn : Ly → Mm → Prop) : Met l yX6_init (Cond.code yX6_init cX6_init 1 none :: TT) rm_X6_init (PcG D cy tq [.ref v0] sz Y M (f_X6_init Y v0 M Kn)) (QA D cy (Am Y sz) Kn) 3 33314 (Am Y sz) := by
  refine Met.ofW (cc := cX6_init) (maxL := 1) (ret := none) (by decide) rfl ?_
  intro p e s m args below meth c s₁ B hml hv
  obtain ⟨hargs, hsz, hW, hK, hC, hf⟩ := hv
  subst hsz
  have hx := B.exec
  have hb := B.bytes
  have hr := B.returns
  have hts : ∀ w ∈ TT, w.before args s = true := fun w h => atoms_spec (ws := Cond.code yX6_init cX6_init 1 none :: TT) B.pre w (List.mem_cons_of_mem _ h)
  have hown : s.vm.findClass RX6 = some m.cls := findClass_of_methodNamed B.named
  have hlocks := B.notSynchronized
  have hin : meth.name = "<init>" := (name_of_methodNamed B.named B.method).1
  replace hW := Wd_self (sz := s.heap.size) hW
  generalize hAe : Am Y s.heap.size = A at hW hC ⊢
  have hA : ∀ q : Nat, s.heap.size ≤ q → A q := fun q h => by rw [← hAe]; exact Or.inr h
  clear hAe
  have hS : va_S A s.heap s.heap [] := va_S.rf
  obtain ⟨ls, hE, hl⟩ := gm_entry m [.ref v0] (n := 1) hargs (Nat.le_of_ble_eq_true rfl)
  rw [hE]
  have hl : lv_has ls 1 [(0, .ref v0)] := hl
  show W p l e rm_X6_init s m args below meth c s.heap [] 0 0 (MQ below (QA D cy A Kn) args s 3 33314 A) (F0 m 0 ls [])
  unfold f_X6_init at hf
  refine lv_aload_n hx hb dX6_init_0 rfl (lv_at hl 0 rfl) ?_
  refine W.objInit hx hb hown (hts _ kw_112) (hts _ kw_36) (hts _ kw_37) rfl (by rw [hml]; exact hl.1) rfl dX6_init_1 (Nat.le_of_ble_eq_true rfl) (Nat.le_of_ble_eq_true rfl) ?_
  refine W.eq (g2 := F0 m 4 ls []) rfl ?_
  refine lv_aload_n hx hb dX6_init_4 rfl (lv_at hl 0 rfl) ?_
  refine lv_ldc (v := 32768) hx hb hown (hts _ kw_113) dX6_init_5 ?_
  refine gm_newb hx hb (hts _ kw_55) hK hW hS hA (n := 32768) 32768 (by decide +kernel) (by decide +kernel) (Nat.le_refl _) (by decide) (by show _ ≤ 3; omega) (by show _ ≤ 33314; omega) dX6_init_7 (fun q1 H Y2 M3 h0q1 eY2 eM3 hW hS => ?_)
  replace hf := hf q1 h0q1 Y2 eY2 M3 eM3
  obtain ⟨k4, hf⟩ := hf
  refine gm_putFR (C := RX6) (T := TX6) (N := 6) (j := 0) hx hb hts inT_6 tyX6 tyX6_ok nmX6 hown hK hW hS k4 (by decide) rfl (by decide) rfl (hts _ kw_115) rfl rfl hin rfl rfl rfl dX6_init_9 (fun H locs M5 eM5 hW hS => ?_)
  replace hf := hf M5 eM5
  refine lv_aload_n hx hb dX6_init_12 rfl (lv_at hl 0 rfl) ?_
  refine lv_sipush (v := 538) hx hb dX6_init_13 (by decide +kernel) ?_
  refine gm_newi hx hb (hts _ kw_129) hK hW hS hA (n := 538) 538 (by decide +kernel) (by decide +kernel) (Nat.le_refl _) (by decide) (by show _ ≤ 3; omega) (by show _ ≤ 33314; omega) dX6_init_16 (fun q6 H Y7 M8 h0q6 eY7 eM8 hW hS => ?_)
  replace hf := hf q6 h0q6 Y7 eY7 M8 eM8
  obtain ⟨k9, hf⟩ := hf
  refine gm_putFR (C := RX6) (T := TX6) (N := 6) (j := 3) hx hb hts inT_6 tyX6 tyX6_ok nmX6 hown hK hW hS k9 (by decide) rfl (by decide) rfl (hts _ kw_120) rfl rfl hin rfl rfl rfl dX6_init_18 (fun H locs M10 eM10 hW hS => ?_)
  replace hf := hf M10 eM10
  refine lv_aload_n hx hb dX6_init_21 rfl (lv_at hl 0 rfl) ?_
  refine gm_new (ci := 10) hx hb hts inT_10 tyX10 tyX10_ok hown (hts _ kw_114) (hts _ kw_62) (hts _ kw_4) hK hW hS hA rfl (by decide) rfl def_10 (by show _ ≤ 3; omega) (by show _ ≤ 33314; omega) dX6_init_22 (fun q11 H Y12 M13 h0q11 eY12 eM13 hW hS => ?_)
  replace hf := hf q11 h0q11 Y12 eY12 M13 eM13
  refine lv_dup hx hb dX6_init_25 rfl ?_
  refine gm_ca (va_runIN (As := []) (rest := [.ref q11, .ref v0]) ⟨hx, hb, hml, hown, hts⟩ (m_X10_init l D cy tq _ Y12 _ _ _) ⟨va_cnB 0 hts (good_C kw_64) rfl rfl rfl hC.2.2.2.2.2.2.2.2.1 (hts _ kw_4) (by decide +kernel) ⟨Nat.le_of_ble_eq_true rfl, Nat.le_of_ble_eq_true rfl⟩, rfl, hts _ kw_63⟩ (gm_preS hK hW hC hS hA hf) rfl rfl hl.1 rfl (lv_room (Nat.le_of_ble_eq_true rfl)) dX6_init_26 ⟨by show _ ≤ 3; omega, by show _ ≤ 33314; omega⟩) hW hS hA (fun Y14 M15 H locs hW hS hf => ?_)
  obtain ⟨k16, hf⟩ := hf
  refine gm_putFR (C := RX6) (T := TX6) (N := 6) (j := 5) hx hb hts inT_6 tyX6 tyX6_ok nmX6 hown hK hW hS k16 (by decide) rfl (by decide) rfl (hts _ kw_122) rfl rfl hin rfl rfl rfl dX6_init_29 (fun H locs M17 eM17 hW hS => ?_)
  replace hf := hf M17 eM17
  refine W.widen (k := 3) (n := 33314) (by omega) (by omega) ?_
  exact gm_vretA hx hb hr hlocks hW hS hf dX6_init_32

abbrev rm_X6_clear : Room := { frames := 2, cells := 0, slots := 0, locals := 80 }
def f_X6_clear (Y : Ly) (v0 : Nat) (M : Mm) (Kn : Mm → Prop) : Prop :=
  yK Y v0 = 6 ∧ (∀ M2 : Mm, M2 = sI M v0 (m1 (mI M v0) 1 0) → (∀ M3 : Mm, M3 = sI M2 v0 (m1 (mI M2 v0) 2 0) → (Kn M3)))
set_option maxHeartbeats 4000000 in
set_option maxRecDepth 100000 in
theorem m_X6_clear (l : Launch) (D : va_G) (cy : Cy) (tq sz : Nat) (Y : Ly) (v0 : Nat) (M : Mm) (Kn : Mm → Prop) : Met l yX6_clear (Cond.code yX6_clear cX6_clear 1 none :: TT) rm_X6_clear (PcG D cy tq [.ref v0] sz Y M (f_X6_clear Y v0 M Kn)) (va_Qv Kn (BG D cy (Am Y sz) Y) (Am Y sz)) 0 0 (Am Y sz) := by
  refine Met.ofW (cc := cX6_clear) (maxL := 1) (ret := none) (by decide) rfl ?_
  intro p e s m args below meth c s₁ B hml hv
  obtain ⟨hargs, hsz, hW, hK, hC, hf⟩ := hv
  subst hsz
  have hx := B.exec
  have hb := B.bytes
  have hr := B.returns
  have hts : ∀ w ∈ TT, w.before args s = true := fun w h => atoms_spec (ws := Cond.code yX6_clear cX6_clear 1 none :: TT) B.pre w (List.mem_cons_of_mem _ h)
  have hown : s.vm.findClass RX6 = some m.cls := findClass_of_methodNamed B.named
  have hlocks := B.notSynchronized
  replace hW := Wd_self (sz := s.heap.size) hW
  generalize hAe : Am Y s.heap.size = A at hW hC ⊢
  have hA : ∀ q : Nat, s.heap.size ≤ q → A q := fun q h => by rw [← hAe]; exact Or.inr h
  clear hAe
  have hS : va_S A s.heap s.heap [] := va_S.rf
  obtain ⟨ls, hE, hl⟩ := gm_entry m [.ref v0] (n := 1) hargs (Nat.le_of_ble_eq_true rfl)
  rw [hE]
  have hl : lv_has ls 1 [(0, .ref v0)] := hl
  show W p l e rm_X6_clear s m args below meth c s.heap [] 0 0 (MQ below (va_Qv Kn (BG D cy A Y) A) args s 0 0 A) (F0 m 0 ls [])
  unfold f_X6_clear at hf
  refine lv_aload_n hx hb dX6_clear_0 rfl (lv_at hl 0 rfl) ?_
  refine lv_iconst (v := 0) hx hb dX6_clear_1 (by decide +kernel) ?_
  obtain ⟨k1, hf⟩ := hf
  refine gm_putI (C := RX6) (T := TX6) (N := 6) (j := 1) hx hb hts inT_6 tyX6 tyX6_ok nmX6 hown hK hW hS k1 (by decide) rfl (by decide) rfl (hts _ kw_117) rfl rfl rfl rfl dX6_clear_2 (fun H locs M2 eM2 hW hS => ?_)
  replace hf := hf M2 eM2
  refine lv_aload_n hx hb dX6_clear_5 rfl (lv_at hl 0 rfl) ?_
  refine lv_iconst (v := 0) hx hb dX6_clear_6 (by decide +kernel) ?_
  refine gm_putI (C := RX6) (T := TX6) (N := 6) (j := 2) hx hb hts inT_6 tyX6 tyX6_ok nmX6 hown hK hW hS k1 (by decide) rfl (by decide) rfl (hts _ kw_119) rfl rfl rfl rfl dX6_clear_7 (fun H locs M3 eM3 hW hS => ?_)
  replace hf := hf M3 eM3
  exact gm_vret hx hb hr hlocks hW hS hf dX6_clear_10

abbrev rm_X6_accepts : Room := { frames := 2, cells := 0, slots := 0, locals := 80 }
def f_X6_accepts_22 (Y : Ly) (M : Mm) (Kn : Int32 → Mm → Prop) (y2 : Int32) : Prop :=
  bz y2 ∧ Kn y2 M
def f_X6_accepts_17 (Y : Ly) (M : Mm) (Kn : Int32 → Mm → Prop) : Prop :=
  f_X6_accepts_22 Y M Kn 1
def f_X6_accepts (Y : Ly) (v0 : Nat) (v1 : Int32) (v2 : Int32) (M : Mm) (Kn : Int32 → Mm → Prop) : Prop :=
  yK Y v0 = 6 ∧ (((mI M v0 2) = 0 → (f_X6_accepts_17 Y M Kn)) ∧ (¬ ((mI M v0 2) = 0) → ((v2 < ((mI M v0 1) + v1) → (f_X6_accepts_22 Y M Kn 0)) ∧ (¬ (v2 < ((mI M v0 1) + v1)) → (f_X6_accepts_17 Y M Kn)))))
set_option maxHeartbeats 4000000 in
set_option maxRecDepth 100000 in
theorem m_X6_accepts (l : Launch) (D : va_G) (cy : Cy) (tq sz : Nat) (Y : Ly) (v0 : Nat) (v1 : Int32) (v2 : Int32) (M : Mm) (Kn : Int32 → Mm → Prop) : Met l yX6_accepts (Cond.code yX6_accepts cX6_accepts 3 (some .boolean) :: TT) rm_X6_accepts (PcG D cy tq [.ref v0, .int v1, .int v2] sz Y M (f_X6_accepts Y v0 v1 v2 M Kn)) (va_Qi Kn (BG D cy (Am Y sz) Y) (Am Y sz)) 0 0 (Am Y sz) := by
  refine Met.ofW (cc := cX6_accepts) (maxL := 3) (ret := (some .boolean)) (by decide) rfl ?_
  intro p e s m args below meth c s₁ B hml hv
  obtain ⟨hargs, hsz, hW, hK, hC, hf⟩ := hv
  subst hsz
  have hx := B.exec
  have hb := B.bytes
  have hr := B.returns
  have hts : ∀ w ∈ TT, w.before args s = true := fun w h => atoms_spec (ws := Cond.code yX6_accepts cX6_accepts 3 (some .boolean) :: TT) B.pre w (List.mem_cons_of_mem _ h)
  have hown : s.vm.findClass RX6 = some m.cls := findClass_of_methodNamed B.named
  have hlocks := B.notSynchronized
  replace hW := Wd_self (sz := s.heap.size) hW
  generalize hAe : Am Y s.heap.size = A at hW hC ⊢
  have hA : ∀ q : Nat, s.heap.size ≤ q → A q := fun q h => by rw [← hAe]; exact Or.inr h
  clear hAe
  have hS : va_S A s.heap s.heap [] := va_S.rf
  obtain ⟨ls, hE, hl⟩ := gm_entry m [.ref v0, .int v1, .int v2] (n := 3) hargs (Nat.le_of_ble_eq_true rfl)
  rw [hE]
  have hl : lv_has ls 3 [(0, .ref v0), (1, .int v1), (2, .int v2)] := hl
  show W p l e rm_X6_accepts s m args below meth c s.heap [] 0 0 (MQ below (va_Qi Kn (BG D cy A Y) A) args s 0 0 A) (F0 m 0 ls [])
  unfold f_X6_accepts at hf
  refine lv_aload_n hx hb dX6_accepts_0 rfl (lv_at hl 0 rfl) ?_
  obtain ⟨k1, hf⟩ := hf
  refine gm_getI (C := RX6) (T := TX6) (N := 6) (j := 2) hx hb hts inT_6 hown hK hW k1 (by decide) rfl (by decide) rfl (hts _ kw_119) rfl dX6_accepts_1 ?_
  have j22 : ∀ (y2 : Int32) (H : Heap) (locs : List Loc) (ls : Array Slot), lv_has ls 3 [] → Wd D cy A Y M H → va_S A s.heap H locs → f_X6_accepts_22 Y M Kn y2 → W p l e rm_X6_accepts s m args below meth c H locs 0 0 (MQ below (va_Qi Kn (BG D cy A Y) A) args s 0 0 A) (F0 m 22 ls [.int y2]) := by
    intro y2 H locs ls hl hW hS hf
    unfold f_X6_accepts_22 at hf
    exact gm_zret hx hb hr hlocks hW hS hf.1 hf.2 dX6_accepts_22
  have j17 : ∀ (H : Heap) (locs : List Loc) (ls : Array Slot), lv_has ls 3 [] → Wd D cy A Y M H → va_S A s.heap H locs → f_X6_accepts_17 Y M Kn  → W p l e rm_X6_accepts s m args below meth c H locs 0 0 (MQ below (va_Qi Kn (BG D cy A Y) A) args s 0 0 A) (F0 m 17 ls []) := by
    intro  H locs ls hl hW hS hf
    unfold f_X6_accepts_17 at hf
    refine lv_iconst (v := 1) hx hb dX6_accepts_17 (by decide +kernel) ?_
    refine lv_goto (tgt := 22) hx hb dX6_accepts_18 (by decide) ?_
    exact j22 _ _ _ _ (lv_sub hl [] rfl) hW hS hf
  refine lv_if_eq (tgt := 17) hx hb dX6_accepts_4 (by decide) (fun c3 => ?_) (fun c3 => ?_)
  · replace hf := hf.1 c3
    exact j17  _ _ _ (lv_sub hl [] rfl) hW hS hf
  · replace hf := hf.2 c3
    refine lv_aload_n hx hb dX6_accepts_7 rfl (lv_at hl 0 rfl) ?_
    refine gm_getI (C := RX6) (T := TX6) (N := 6) (j := 1) hx hb hts inT_6 hown hK hW k1 (by decide) rfl (by decide) rfl (hts _ kw_117) rfl dX6_accepts_8 ?_
    refine lv_iload_n hx hb dX6_accepts_11 rfl (lv_at hl 1 rfl) ?_
    refine lv_iadd hx hb dX6_accepts_12 ?_
    refine lv_iload_n hx hb dX6_accepts_13 rfl (lv_at hl 2 rfl) ?_
    refine lv_icmp_gt (tgt := 21) hx hb dX6_accepts_14 (by decide) (fun c4 => ?_) (fun c4 => ?_)
    · replace hf := hf.1 c4
      refine lv_iconst (v := 0) hx hb dX6_accepts_21 (by decide +kernel) ?_
      exact j22 _ _ _ _ (lv_sub hl [] rfl) hW hS hf
    · replace hf := hf.2 c4
      exact j17  _ _ _ (lv_sub hl [] rfl) hW hS hf

abbrev rm_X6_add : Room := { frames := 5, cells := 0, slots := 0, locals := 149 }
def f_X6_add (Y : Ly) (v0 : Nat) (v1 : Nat) (v2 : Int32) (M : Mm) (Kn : Mm → Prop) : Prop :=
  f_X0_sizeOf Y v1 v2 M (fun r2 M1 => (yK Y v0 = 6 ∧ (∃ b4 : Nat, mR M1 v0 0 = some b4 ∧ (yK Y v1 = 100 ∧ (yK Y b4 = 100 ∧ (((¬ v2 < 0) ∧ (¬ (mI M1 v0 1) < 0) ∧ (¬ r2 < 0) ∧ v2.toNatClampNeg + r2.toNatClampNeg ≤ yN Y v1 ∧ (mI M1 v0 1).toNatClampNeg + r2.toNatClampNeg ≤ yN Y b4) ∧ (∀ M8 : Mm, M8 = sI M1 b4 (va_cpy (mI M1 v1) (mI M1 b4) v2.toNatClampNeg (mI M1 v0 1).toNatClampNeg r2.toNatClampNeg) → (∃ b9 : Nat, mR M8 v0 3 = some b9 ∧ (yK Y b9 = 101 ∧ (vp_in (mI M8 v0 2) (yN Y b9) ∧ (∀ M12 : Mm, M12 = sI M8 b9 (m1 (mI M8 b9) (mI M8 v0 2).toNatClampNeg (mI M8 v0 1)) → (∀ M13 : Mm, M13 = sI M12 v0 (m1 (mI M12 v0) 2 ((mI M12 v0 2) + 1)) → (∀ M14 : Mm, M14 = sI M13 v0 (m1 (mI M13 v0) 1 ((mI M13 v0 1) + r2)) → (Kn M14))))))))))))))
set_option maxHeartbeats 4000000 in
set_option maxRecDepth 100000 in
theorem m_X6_add (l : Launch) (D : va_G) (cy : Cy) (tq sz : Nat) (Y : Ly) (v0 : Nat) (v1 : Nat) (v2 : Int32) (M : Mm) (Kn : Mm → Prop) : Met l yX6_add (Cond.code yX6_add cX6_add 4 none :: TT) rm_X6_add (PcG D cy tq [.ref v0, .ref v1, .int v2] sz Y M (f_X6_add Y v0 v1 v2 M Kn)) (va_Qv Kn (BG D cy (Am Y sz) Y) (Am Y sz)) 0 0 (Am Y sz) := by
  refine Met.ofW (cc := cX6_add) (maxL := 4) (ret := none) (by decide) rfl ?_
  intro p e s m args below meth c s₁ B hml hv
  obtain ⟨hargs, hsz, hW, hK, hC, hf⟩ := hv
  subst hsz
  have hx := B.exec
  have hb := B.bytes
  have hr := B.returns
  have hts : ∀ w ∈ TT, w.before args s = true := fun w h => atoms_spec (ws := Cond.code yX6_add cX6_add 4 none :: TT) B.pre w (List.mem_cons_of_mem _ h)
  have hown : s.vm.findClass RX6 = some m.cls := findClass_of_methodNamed B.named
  have hlocks := B.notSynchronized
  replace hW := Wd_self (sz := s.heap.size) hW
  generalize hAe : Am Y s.heap.size = A at hW hC ⊢
  have hA : ∀ q : Nat, s.heap.size ≤ q → A q := fun q h => by rw [← hAe]; exact Or.inr h
  clear hAe
  have hS : va_S A s.heap s.heap [] := va_S.rf
  obtain ⟨ls, hE, hl⟩ := gm_entry m [.ref v0, .ref v1, .int v2] (n := 4) hargs (Nat.le_of_ble_eq_true rfl)
  rw [hE]
  have hl : lv_has ls 4 [(0, .ref v0), (1, .ref v1), (2, .int v2)] := hl
  show W p l e rm_X6_add s m args below meth c s.heap [] 0 0 (MQ below (va_Qv Kn (BG D cy A Y) A) args s 0 0 A) (F0 m 0 ls [])
  unfold f_X6_add at hf
  refine lv_aload_n hx hb dX6_add_0 rfl (lv_at hl 1 rfl) ?_
  refine lv_iload_n hx hb dX6_add_1 rfl (lv_at hl 2 rfl) ?_
  refine gm_ci (va_runS (As := [.ref v1, .int v2]) (rest := []) ⟨hx, hb, hml, hown, hts⟩ (m_X0_sizeOf l D cy tq _ Y _ _ _ _) (va_cwS 2 hts (good_S kw_996 kw_355 kw_20 kw_356) rfl rfl rfl (by decide +kernel) ⟨Nat.le_of_ble_eq_true rfl, Nat.le_of_ble_eq_true rfl⟩) (gm_preS hK hW hC hS hA hf) rfl rfl hl.1 rfl (lv_room (Nat.le_of_ble_eq_true rfl)) dX6_add_2 ⟨Nat.le_of_ble_eq_true rfl, Nat.le_of_ble_eq_true rfl⟩) hW hS hA (fun r2 M1 H locs hW hS hf => ?_)
  refine lv_istore_n (lv' := [(3, .int r2), (0, .ref v0), (1, .ref v1), (2, .int v2)]) hx hb dX6_add_5 rfl hl (by decide) rfl (fun ls hl => ?_)
  refine lv_aload_n hx hb dX6_add_6 rfl (lv_at hl 2 rfl) ?_
  refine lv_iload_n hx hb dX6_add_7 rfl (lv_at hl 3 rfl) ?_
  refine lv_aload_n hx hb dX6_add_8 rfl (lv_at hl 1 rfl) ?_
  obtain ⟨k3, hf⟩ := hf
  obtain ⟨b4, hb4, hf⟩ := hf
  refine gm_getR (C := RX6) (T := TX6) (N := 6) (j := 0) hx hb hts inT_6 hown hK hW k3 (by decide) rfl (by decide) rfl (hts _ kw_115) rfl dX6_add_9 hb4 ?_
  refine lv_aload_n hx hb dX6_add_12 rfl (lv_at hl 1 rfl) ?_
  refine gm_getI (C := RX6) (T := TX6) (N := 6) (j := 1) hx hb hts inT_6 hown hK hW k3 (by decide) rfl (by decide) rfl (hts _ kw_117) rfl dX6_add_13 ?_
  refine lv_iload_n hx hb dX6_add_16 rfl (lv_at hl 0 rfl) ?_
  obtain ⟨k5, hf⟩ := hf
  obtain ⟨k6, hf⟩ := hf
  obtain ⟨h7, hf⟩ := hf
  refine gm_copyb hx hb (by rw [hml]; exact hl.1.symm) hown (hts _ kw_997) (hts _ kw_534) (hts _ kw_533) (hts _ kw_19) hK hW hS k5 k6 h7 (Nat.le_of_ble_eq_true rfl) (Nat.le_of_ble_eq_true rfl) dX6_add_17 (fun H locs M8 eM8 hW hS => ?_)
  replace hf := hf M8 eM8
  refine lv_aload_n hx hb dX6_add_20 rfl (lv_at hl 1 rfl) ?_
  obtain ⟨b9, hb9, hf⟩ := hf
  refine gm_getR (C := RX6) (T := TX6) (N := 6) (j := 3) hx hb hts inT_6 hown hK hW k3 (by decide) rfl (by decide) rfl (hts _ kw_120) rfl dX6_add_21 hb9 ?_
  refine lv_aload_n hx hb dX6_add_24 rfl (lv_at hl 1 rfl) ?_
  refine gm_getI (C := RX6) (T := TX6) (N := 6) (j := 2) hx hb hts inT_6 hown hK hW k3 (by decide) rfl (by decide) rfl (hts _ kw_119) rfl dX6_add_25 ?_
  refine lv_aload_n hx hb dX6_add_28 rfl (lv_at hl 1 rfl) ?_
  refine gm_getI (C := RX6) (T := TX6) (N := 6) (j := 1) hx hb hts inT_6 hown hK hW k3 (by decide) rfl (by decide) rfl (hts _ kw_117) rfl dX6_add_29 ?_
  obtain ⟨k10, hf⟩ := hf
  obtain ⟨h11, hf⟩ := hf
  refine gm_iast hx hb hK hW hS k10 h11 dX6_add_32 (fun H locs M12 eM12 hW hS => ?_)
  replace hf := hf M12 eM12
  refine lv_aload_n hx hb dX6_add_33 rfl (lv_at hl 1 rfl) ?_
  refine lv_dup hx hb dX6_add_34 rfl ?_
  refine gm_getI (C := RX6) (T := TX6) (N := 6) (j := 2) hx hb hts inT_6 hown hK hW k3 (by decide) rfl (by decide) rfl (hts _ kw_119) rfl dX6_add_35 ?_
  refine lv_iconst (v := 1) hx hb dX6_add_38 (by decide +kernel) ?_
  refine lv_iadd hx hb dX6_add_39 ?_
  refine gm_putI (C := RX6) (T := TX6) (N := 6) (j := 2) hx hb hts inT_6 tyX6 tyX6_ok nmX6 hown hK hW hS k3 (by decide) rfl (by decide) rfl (hts _ kw_119) rfl rfl rfl rfl dX6_add_40 (fun H locs M13 eM13 hW hS => ?_)
  replace hf := hf M13 eM13
  refine lv_aload_n hx hb dX6_add_43 rfl (lv_at hl 1 rfl) ?_
  refine lv_dup hx hb dX6_add_44 rfl ?_
  refine gm_getI (C := RX6) (T := TX6) (N := 6) (j := 1) hx hb hts inT_6 hown hK hW k3 (by decide) rfl (by decide) rfl (hts _ kw_117) rfl dX6_add_45 ?_
  refine lv_iload_n hx hb dX6_add_48 rfl (lv_at hl 0 rfl) ?_
  refine lv_iadd hx hb dX6_add_49 ?_
  refine gm_putI (C := RX6) (T := TX6) (N := 6) (j := 1) hx hb hts inT_6 tyX6 tyX6_ok nmX6 hown hK hW hS k3 (by decide) rfl (by decide) rfl (hts _ kw_117) rfl rfl rfl rfl dX6_add_50 (fun H locs M14 eM14 hW hS => ?_)
  replace hf := hf M14 eM14
  exact gm_vret hx hb hr hlocks hW hS hf dX6_add_53

abbrev rm_X6_readOne : Room := { frames := 5, cells := 0, slots := 0, locals := 158 }
def f_X6_readOne_56 (Y : Ly) (Kn : Int32 → Mm → Prop) (x5 : Int32) (M7 : Mm) : Prop :=
  bz x5 ∧ Kn x5 M7
def L_X6_readOne_18 (Y : Ly) (v0 : Nat) (v1 : Int32) (Kn : Int32 → Mm → Prop) (x5 : Int32) (x6 : Int32) (M7 : Mm) (again18 : Int32 → Int32 → Mm → Prop) : Prop :=
  (v1 < x6 → (f_X6_readOne_56 Y Kn x5 M7)) ∧ (¬ (v1 < x6) → ((x5 = 0 → (f_X6_readOne_56 Y Kn x5 M7)) ∧ (¬ (x5 = 0) → (∃ b10 : Nat, mR M7 v0 5 = some b10 ∧ (∃ b11 : Nat, mR M7 v0 0 = some b11 ∧ (∃ b12 : Nat, mR M7 v0 5 = some b12 ∧ (yK Y b12 = 10 ∧ (yK Y b10 = 10 ∧ (f_X10_read Y b10 b11 (mI M7 b12 6) (mI M7 v0 1) M7 (fun r15 M14 => (∀ x17 : Int32, x17 = x6 + 1 → (again18 r15 x17 M14))))))))))))
def f_X6_readOne (Y : Ly) (v0 : Nat) (v1 : Int32) (M : Mm) (Kn : Int32 → Mm → Prop) : Prop :=
  yK Y v0 = 6 ∧ (∃ b2 : Nat, mR M v0 5 = some b2 ∧ (yK Y b2 = 10 ∧ (∀ M4 : Mm, M4 = sI M b2 (m1 (mI M b2) 6 ((mI M v0 4) + 61)) → (∃ n, LOOP3 (L_X6_readOne_18 Y v0 v1 Kn) n 1 0 M4))))
set_option maxHeartbeats 4000000 in
set_option maxRecDepth 100000 in
theorem m_X6_readOne (l : Launch) (D : va_G) (cy : Cy) (tq sz : Nat) (Y : Ly) (v0 : Nat) (v1 : Int32) (M : Mm) (Kn : Int32 → Mm → Prop) : Met l yX6_readOne (Cond.code yX6_readOne cX6_readOne 4 (some .boolean) :: TT) rm_X6_readOne (PcG D cy tq [.ref v0, .int v1] sz Y M (f_X6_readOne Y v0 v1 M Kn)) (va_Qi Kn (BG D cy (Am Y sz) Y) (Am Y sz)) 0 0 (Am Y sz) := by
  refine Met.ofW (cc := cX6_readOne) (maxL := 4) (ret := (some .boolean)) (by decide) rfl ?_
  intro p e s m args below meth c s₁ B hml hv
  obtain ⟨hargs, hsz, hW, hK, hC, hf⟩ := hv
  subst hsz
  have hx := B.exec
  have hb := B.bytes
  have hr := B.returns
  have hts : ∀ w ∈ TT, w.before args s = true := fun w h => atoms_spec (ws := Cond.code yX6_readOne cX6_readOne 4 (some .boolean) :: TT) B.pre w (List.mem_cons_of_mem _ h)
  have hown : s.vm.findClass RX6 = some m.cls := findClass_of_methodNamed B.named
  have hlocks := B.notSynchronized
  replace hW := Wd_self (sz := s.heap.size) hW
  generalize hAe : Am Y s.heap.size = A at hW hC ⊢
  have hA : ∀ q : Nat, s.heap.size ≤ q → A q := fun q h => by rw [← hAe]; exact Or.inr h
  clear hAe
  have hS : va_S A s.heap s.heap [] := va_S.rf
  obtain ⟨ls, hE, hl⟩ := gm_entry m [.ref v0, .int v1] (n := 4) hargs (Nat.le_of_ble_eq_true rfl)
  rw [hE]
  have hl : lv_has ls 4 [(0, .ref v0), (1, .int v1)] := hl
  show W p l e rm_X6_readOne s m args below meth c s.heap [] 0 0 (MQ below (va_Qi Kn (BG D cy A Y) A) args s 0 0 A) (F0 m 0 ls [])
  unfold f_X6_readOne at hf
  refine lv_aload_n hx hb dX6_readOne_0 rfl (lv_at hl 0 rfl) ?_
  obtain ⟨k1, hf⟩ := hf
  obtain ⟨b2, hb2, hf⟩ := hf
  refine gm_getR (C := RX6) (T := TX6) (N := 6) (j := 5) hx hb hts inT_6 hown hK hW k1 (by decide) rfl (by decide) rfl (hts _ kw_122) rfl dX6_readOne_1 hb2 ?_
  refine lv_aload_n hx hb dX6_readOne_4 rfl (lv_at hl 0 rfl) ?_
  refine gm_getI (C := RX6) (T := TX6) (N := 6) (j := 4) hx hb hts inT_6 hown hK hW k1 (by decide) rfl (by decide) rfl (hts _ kw_121) rfl dX6_readOne_5 ?_
  refine lv_bipush (v := 61) hx hb dX6_readOne_8 (by decide +kernel) ?_
  refine lv_iadd hx hb dX6_readOne_10 ?_
  obtain ⟨k3, hf⟩ := hf
  refine gm_putI (C := RX10) (T := TX10) (N := 8) (j := 6) hx hb hts inT_10 tyX10 tyX10_ok nmX10 hown hK hW hS k3 (by decide) rfl (by decide) rfl (hts _ kw_88) rfl rfl rfl rfl dX6_readOne_11 (fun H locs M4 eM4 hW hS => ?_)
  replace hf := hf M4 eM4
  refine lv_iconst (v := 1) hx hb dX6_readOne_14 (by decide +kernel) ?_
  refine lv_istore_n (lv' := [(2, .int 1), (0, .ref v0), (1, .int v1)]) hx hb dX6_readOne_15 rfl hl (by decide) rfl (fun ls hl => ?_)
  refine lv_iconst (v := 0) hx hb dX6_readOne_16 (by decide +kernel) ?_
  refine lv_istore_n (lv' := [(3, .int 0), (2, .int 1), (0, .ref v0), (1, .int v1)]) hx hb dX6_readOne_17 rfl hl (by decide) rfl (fun ls hl => ?_)
  obtain ⟨n18, hf⟩ := hf
  have lp18 : ∀ (n18 : Nat) (x5 : Int32) (x6 : Int32) (M7 : Mm) (H : Heap) (locs : List Loc) (ls : Array Slot), lv_has ls 4 [(0, .ref v0), (1, .int v1), (2, .int x5), (3, .int x6)] → Wd D cy A Y M7 H → va_S A s.heap H locs → LOOP3 (L_X6_readOne_18 Y v0 v1 Kn) n18 x5 x6 M7 → W p l e rm_X6_readOne s m args below meth c H locs 0 0 (MQ below (va_Qi Kn (BG D cy A Y) A) args s 0 0 A) (F0 m 18 ls []) := by
    intro n18
    induction n18 with
    | zero => intro x5 x6 M7 H locs ls hl hW hS hf; exact hf.elim
    | succ n18 ih18 =>
      intro x5 x6 M7 H locs ls hl hW hS hf
      replace hf : L_X6_readOne_18 Y v0 v1 Kn x5 x6 M7 (LOOP3 (L_X6_readOne_18 Y v0 v1 Kn) n18) := hf
      unfold L_X6_readOne_18 at hf
      refine lv_iload_n hx hb dX6_readOne_18 rfl (lv_at hl 3 rfl) ?_
      refine lv_iload_n hx hb dX6_readOne_19 rfl (lv_at hl 1 rfl) ?_
      have j56 : ∀ (H : Heap) (locs : List Loc) (ls : Array Slot), lv_has ls 4 [(2, .int x5)] → Wd D cy A Y M7 H → va_S A s.heap H locs → f_X6_readOne_56 Y Kn x5 M7  → W p l e rm_X6_readOne s m args below meth c H locs 0 0 (MQ below (va_Qi Kn (BG D cy A Y) A) args s 0 0 A) (F0 m 56 ls []) := by
        intro  H locs ls hl hW hS hf
        unfold f_X6_readOne_56 at hf
        refine lv_iload_n hx hb dX6_readOne_56 rfl (lv_at hl 0 rfl) ?_
        exact gm_zret hx hb hr hlocks hW hS hf.1 hf.2 dX6_readOne_57
      refine lv_icmp_gt (tgt := 56) hx hb dX6_readOne_20 (by decide) (fun c8 => ?_) (fun c8 => ?_)
      · replace hf := hf.1 c8
        exact j56  _ _ _ (lv_sub hl [2] rfl) hW hS hf
      · replace hf := hf.2 c8
        refine lv_iload_n hx hb dX6_readOne_23 rfl (lv_at hl 2 rfl) ?_
        refine lv_if_eq (tgt := 56) hx hb dX6_readOne_24 (by decide) (fun c9 => ?_) (fun c9 => ?_)
        · replace hf := hf.1 c9
          exact j56  _ _ _ (lv_sub hl [2] rfl) hW hS hf
        · replace hf := hf.2 c9
          refine lv_aload_n hx hb dX6_readOne_27 rfl (lv_at hl 0 rfl) ?_
          obtain ⟨b10, hb10, hf⟩ := hf
          refine gm_getR (C := RX6) (T := TX6) (N := 6) (j := 5) hx hb hts inT_6 hown hK hW k1 (by decide) rfl (by decide) rfl (hts _ kw_122) rfl dX6_readOne_28 hb10 ?_
          refine lv_aload_n hx hb dX6_readOne_31 rfl (lv_at hl 0 rfl) ?_
          obtain ⟨b11, hb11, hf⟩ := hf
          refine gm_getR (C := RX6) (T := TX6) (N := 6) (j := 0) hx hb hts inT_6 hown hK hW k1 (by decide) rfl (by decide) rfl (hts _ kw_115) rfl dX6_readOne_32 hb11 ?_
          refine lv_aload_n hx hb dX6_readOne_35 rfl (lv_at hl 0 rfl) ?_
          obtain ⟨b12, hb12, hf⟩ := hf
          refine gm_getR (C := RX6) (T := TX6) (N := 6) (j := 5) hx hb hts inT_6 hown hK hW k1 (by decide) rfl (by decide) rfl (hts _ kw_122) rfl dX6_readOne_36 hb12 ?_
          obtain ⟨k13, hf⟩ := hf
          refine gm_getI (C := RX10) (T := TX10) (N := 8) (j := 6) hx hb hts inT_10 hown hK hW k13 (by decide) rfl (by decide) rfl (hts _ kw_88) rfl dX6_readOne_39 ?_
          refine lv_aload_n hx hb dX6_readOne_42 rfl (lv_at hl 0 rfl) ?_
          refine gm_getI (C := RX6) (T := TX6) (N := 6) (j := 1) hx hb hts inT_6 hown hK hW k1 (by decide) rfl (by decide) rfl (hts _ kw_117) rfl dX6_readOne_43 ?_
          obtain ⟨k16, hf⟩ := hf
          refine gm_ci (va_runV (As := [.ref b11, .int (mI M7 b12 6), .int (mI M7 v0 1)]) (rest := []) ⟨hx, hb, hml, hown, hts⟩ (m_X10_read l D cy tq _ Y _ _ _ _ _ _) (cwV 3 hts (good_V kw_1020 kw_819 kw_820 kw_4 kw_821) rfl rfl rfl (by decide +kernel) ⟨Nat.le_of_ble_eq_true rfl, Nat.le_of_ble_eq_true rfl⟩) (gm_preV hK hW hC hS hA k16 (by decide) (q := (RX10, TX10, 8)) rfl rfl hf) rfl rfl hl.1 rfl (lv_room (Nat.le_of_ble_eq_true rfl)) dX6_readOne_46 ⟨Nat.le_of_ble_eq_true rfl, Nat.le_of_ble_eq_true rfl⟩) hW hS hA (fun r15 M14 H locs hW hS hf => ?_)
          refine lv_istore_n (lv' := [(2, .int r15), (0, .ref v0), (1, .int v1), (3, .int x6)]) hx hb dX6_readOne_49 rfl hl (by decide) rfl (fun ls hl => ?_)
          obtain ⟨x17, ex17⟩ : ∃ y : Int32, y = x6 + 1 := ⟨_, rfl⟩
          replace hf := hf x17 ex17
          refine lv_iinc (v := x17) (lv' := [(3, .int x17), (2, .int r15), (0, .ref v0), (1, .int v1)]) hx hb dX6_readOne_50 hl (k := 3) rfl (by rw [ex17]; rfl) (by decide) rfl (fun ls hl => ?_)
          refine lv_goto (tgt := 18) hx hb dX6_readOne_53 (by decide) ?_
          exact ih18 _ _ _ _ _ _ (lv_sub hl [2, 3, 1, 0] rfl) hW hS hf
  exact lp18 n18 _ _ _ _ _ _ (lv_sub hl [2, 3, 1, 0] rfl) hW hS hf

abbrev rm_X6_turnTo : Room := { frames := 6, cells := 0, slots := 0, locals := 181 }
def L_X6_turnTo_4 (Y : Ly) (v0 : Nat) (Kn : Int32 → Mm → Prop) (x1 : Int32) (x2 : Int32) (M3 : Mm) (again4 : Int32 → Int32 → Mm → Prop) : Prop :=
  yK Y v0 = 6 ∧ (((mI M3 v0 2) ≤ x2 → (bz 0 ∧ Kn 0 M3)) ∧ (¬ ((mI M3 v0 2) ≤ x2) → (∃ b6 : Nat, mR M3 v0 0 = some b6 ∧ (∃ b7 : Nat, mR M3 v0 3 = some b7 ∧ (yK Y b7 = 101 ∧ (vp_in x2 (yN Y b7) ∧ (f_X0_countOf Y b6 (mI M3 b7 x2.toNatClampNeg) M3 (fun r11 M10 => ((r11 ≤ x1 → (∀ x13 : Int32, x13 = x1 - r11 → (∀ x14 : Int32, x14 = x2 + 1 → (again4 x13 x14 M10)))) ∧ (¬ (r11 ≤ x1) → (∃ b15 : Nat, mR M10 v0 3 = some b15 ∧ (yK Y b15 = 101 ∧ (vp_in x2 (yN Y b15) ∧ (∀ M18 : Mm, M18 = sI M10 v0 (m1 (mI M10 v0) 4 (mI M10 b15 x2.toNatClampNeg)) → (f_X6_readOne Y v0 x1 M18 (fun r20 M19 => (bz r20 ∧ Kn r20 M19)))))))))))))))))
def f_X6_turnTo (Y : Ly) (v0 : Nat) (v1 : Int32) (M : Mm) (Kn : Int32 → Mm → Prop) : Prop :=
  ∃ n, LOOP3 (L_X6_turnTo_4 Y v0 Kn) n v1 0 M
set_option maxHeartbeats 4000000 in
set_option maxRecDepth 100000 in
theorem m_X6_turnTo (l : Launch) (D : va_G) (cy : Cy) (tq sz : Nat) (Y : Ly) (v0 : Nat) (v1 : Int32) (M : Mm) (Kn : Int32 → Mm → Prop) : Met l yX6_turnTo (Cond.code yX6_turnTo cX6_turnTo 5 (some .boolean) :: TT) rm_X6_turnTo (PcG D cy tq [.ref v0, .int v1] sz Y M (f_X6_turnTo Y v0 v1 M Kn)) (va_Qi Kn (BG D cy (Am Y sz) Y) (Am Y sz)) 0 0 (Am Y sz) := by
  refine Met.ofW (cc := cX6_turnTo) (maxL := 5) (ret := (some .boolean)) (by decide) rfl ?_
  intro p e s m args below meth c s₁ B hml hv
  obtain ⟨hargs, hsz, hW, hK, hC, hf⟩ := hv
  subst hsz
  have hx := B.exec
  have hb := B.bytes
  have hr := B.returns
  have hts : ∀ w ∈ TT, w.before args s = true := fun w h => atoms_spec (ws := Cond.code yX6_turnTo cX6_turnTo 5 (some .boolean) :: TT) B.pre w (List.mem_cons_of_mem _ h)
  have hown : s.vm.findClass RX6 = some m.cls := findClass_of_methodNamed B.named
  have hlocks := B.notSynchronized
  replace hW := Wd_self (sz := s.heap.size) hW
  generalize hAe : Am Y s.heap.size = A at hW hC ⊢
  have hA : ∀ q : Nat, s.heap.size ≤ q → A q := fun q h => by rw [← hAe]; exact Or.inr h
  clear hAe
  have hS : va_S A s.heap s.heap [] := va_S.rf
  obtain ⟨ls, hE, hl⟩ := gm_entry m [.ref v0, .int v1] (n := 5) hargs (Nat.le_of_ble_eq_true rfl)
  rw [hE]
  have hl : lv_has ls 5 [(0, .ref v0), (1, .int v1)] := hl
  show W p l e rm_X6_turnTo s m args below meth c s.heap [] 0 0 (MQ below (va_Qi Kn (BG D cy A Y) A) args s 0 0 A) (F0 m 0 ls [])
  unfold f_X6_turnTo at hf
  refine lv_iload_n hx hb dX6_turnTo_0 rfl (lv_at hl 1 rfl) ?_
  refine lv_istore_n (lv' := [(2, .int v1), (0, .ref v0), (1, .int v1)]) hx hb dX6_turnTo_1 rfl hl (by decide) rfl (fun ls hl => ?_)
  refine lv_iconst (v := 0) hx hb dX6_turnTo_2 (by decide +kernel) ?_
  refine lv_istore_n (lv' := [(3, .int 0), (2, .int v1), (0, .ref v0), (1, .int v1)]) hx hb dX6_turnTo_3 rfl hl (by decide) rfl (fun ls hl => ?_)
  obtain ⟨n4, hf⟩ := hf
  have lp4 : ∀ (n4 : Nat) (x1 : Int32) (x2 : Int32) (M3 : Mm) (H : Heap) (locs : List Loc) (ls : Array Slot), lv_has ls 5 [(0, .ref v0), (2, .int x1), (3, .int x2)] → Wd D cy A Y M3 H → va_S A s.heap H locs → LOOP3 (L_X6_turnTo_4 Y v0 Kn) n4 x1 x2 M3 → W p l e rm_X6_turnTo s m args below meth c H locs 0 0 (MQ below (va_Qi Kn (BG D cy A Y) A) args s 0 0 A) (F0 m 4 ls []) := by
    intro n4
    induction n4 with
    | zero => intro x1 x2 M3 H locs ls hl hW hS hf; exact hf.elim
    | succ n4 ih4 =>
      intro x1 x2 M3 H locs ls hl hW hS hf
      replace hf : L_X6_turnTo_4 Y v0 Kn x1 x2 M3 (LOOP3 (L_X6_turnTo_4 Y v0 Kn) n4) := hf
      unfold L_X6_turnTo_4 at hf
      refine lv_iload_n hx hb dX6_turnTo_4 rfl (lv_at hl 2 rfl) ?_
      refine lv_aload_n hx hb dX6_turnTo_5 rfl (lv_at hl 0 rfl) ?_
      obtain ⟨k4, hf⟩ := hf
      refine gm_getI (C := RX6) (T := TX6) (N := 6) (j := 2) hx hb hts inT_6 hown hK hW k4 (by decide) rfl (by decide) rfl (hts _ kw_119) rfl dX6_turnTo_6 ?_
      refine lv_icmp_ge (tgt := 60) hx hb dX6_turnTo_9 (by decide) (fun c5 => ?_) (fun c5 => ?_)
      · replace hf := hf.1 c5
        refine lv_iconst (v := 0) hx hb dX6_turnTo_60 (by decide +kernel) ?_
        exact gm_zret hx hb hr hlocks hW hS hf.1 hf.2 dX6_turnTo_61
      · replace hf := hf.2 c5
        refine lv_aload_n hx hb dX6_turnTo_12 rfl (lv_at hl 0 rfl) ?_
        obtain ⟨b6, hb6, hf⟩ := hf
        refine gm_getR (C := RX6) (T := TX6) (N := 6) (j := 0) hx hb hts inT_6 hown hK hW k4 (by decide) rfl (by decide) rfl (hts _ kw_115) rfl dX6_turnTo_13 hb6 ?_
        refine lv_aload_n hx hb dX6_turnTo_16 rfl (lv_at hl 0 rfl) ?_
        obtain ⟨b7, hb7, hf⟩ := hf
        refine gm_getR (C := RX6) (T := TX6) (N := 6) (j := 3) hx hb hts inT_6 hown hK hW k4 (by decide) rfl (by decide) rfl (hts _ kw_120) rfl dX6_turnTo_17 hb7 ?_
        refine lv_iload_n hx hb dX6_turnTo_20 rfl (lv_at hl 2 rfl) ?_
        obtain ⟨k8, hf⟩ := hf
        obtain ⟨h9, hf⟩ := hf
        refine gm_iald hx hb hK hW k8 h9 dX6_turnTo_21 ?_
        refine gm_ci (va_runS (As := [.ref b6, .int (mI M3 b7 x2.toNatClampNeg)]) (rest := []) ⟨hx, hb, hml, hown, hts⟩ (m_X0_countOf l D cy tq _ Y _ _ _ _) (va_cwS 2 hts (good_S kw_1016 kw_782 kw_20 kw_783) rfl rfl rfl (by decide +kernel) ⟨Nat.le_of_ble_eq_true rfl, Nat.le_of_ble_eq_true rfl⟩) (gm_preS hK hW hC hS hA hf) rfl rfl hl.1 rfl (lv_room (Nat.le_of_ble_eq_true rfl)) dX6_turnTo_22 ⟨Nat.le_of_ble_eq_true rfl, Nat.le_of_ble_eq_true rfl⟩) hW hS hA (fun r11 M10 H locs hW hS hf => ?_)
        refine lv_istore (lv' := [(4, .int r11), (0, .ref v0), (2, .int x1), (3, .int x2)]) hx hb dX6_turnTo_25 hl (by decide) rfl (fun ls hl => ?_)
        refine lv_iload_n hx hb dX6_turnTo_27 rfl (lv_at hl 2 rfl) ?_
        refine lv_iload hx hb dX6_turnTo_28 (lv_at hl 0 rfl) ?_
        refine lv_icmp_ge (tgt := 49) hx hb dX6_turnTo_30 (by decide) (fun c12 => ?_) (fun c12 => ?_)
        · replace hf := hf.1 c12
          refine lv_iload_n hx hb dX6_turnTo_49 rfl (lv_at hl 2 rfl) ?_
          refine lv_iload hx hb dX6_turnTo_50 (lv_at hl 0 rfl) ?_
          refine lv_isub hx hb dX6_turnTo_52 ?_
          refine lv_topi (fun x13 ex13 => ?_)
          replace hf := hf x13 ex13
          refine lv_istore_n (lv' := [(2, .int x13), (4, .int r11), (0, .ref v0), (3, .int x2)]) hx hb dX6_turnTo_53 rfl hl (by decide) rfl (fun ls hl => ?_)
          obtain ⟨x14, ex14⟩ : ∃ y : Int32, y = x2 + 1 := ⟨_, rfl⟩
          replace hf := hf x14 ex14
          refine lv_iinc (v := x14) (lv' := [(3, .int x14), (2, .int x13), (4, .int r11), (0, .ref v0)]) hx hb dX6_turnTo_54 hl (k := 3) rfl (by rw [ex14]; rfl) (by decide) rfl (fun ls hl => ?_)
          refine lv_goto (tgt := 4) hx hb dX6_turnTo_57 (by decide) ?_
          exact ih4 _ _ _ _ _ _ (lv_sub hl [3, 1, 0] rfl) hW hS hf
        · replace hf := hf.2 c12
          refine lv_aload_n hx hb dX6_turnTo_33 rfl (lv_at hl 1 rfl) ?_
          refine lv_aload_n hx hb dX6_turnTo_34 rfl (lv_at hl 1 rfl) ?_
          obtain ⟨b15, hb15, hf⟩ := hf
          refine gm_getR (C := RX6) (T := TX6) (N := 6) (j := 3) hx hb hts inT_6 hown hK hW k4 (by decide) rfl (by decide) rfl (hts _ kw_120) rfl dX6_turnTo_35 hb15 ?_
          refine lv_iload_n hx hb dX6_turnTo_38 rfl (lv_at hl 3 rfl) ?_
          obtain ⟨k16, hf⟩ := hf
          obtain ⟨h17, hf⟩ := hf
          refine gm_iald hx hb hK hW k16 h17 dX6_turnTo_39 ?_
          refine gm_putI (C := RX6) (T := TX6) (N := 6) (j := 4) hx hb hts inT_6 tyX6 tyX6_ok nmX6 hown hK hW hS k4 (by decide) rfl (by decide) rfl (hts _ kw_121) rfl rfl rfl rfl dX6_turnTo_40 (fun H locs M18 eM18 hW hS => ?_)
          replace hf := hf M18 eM18
          refine lv_aload_n hx hb dX6_turnTo_43 rfl (lv_at hl 1 rfl) ?_
          refine lv_iload_n hx hb dX6_turnTo_44 rfl (lv_at hl 2 rfl) ?_
          refine gm_ci (va_runV (As := [.int x1]) (rest := []) ⟨hx, hb, hml, hown, hts⟩ (m_X6_readOne l D cy tq _ Y _ _ _ _) (cwV 1 hts (good_V kw_1017 kw_1018 kw_1804 kw_5 kw_1019) rfl rfl rfl (by decide +kernel) ⟨Nat.le_of_ble_eq_true rfl, Nat.le_of_ble_eq_true rfl⟩) (gm_preV hK hW hC hS hA k4 (by decide) (q := (RX6, TX6, 6)) rfl rfl hf) rfl rfl hl.1 rfl (lv_room (Nat.le_of_ble_eq_true rfl)) dX6_turnTo_45 ⟨Nat.le_of_ble_eq_true rfl, Nat.le_of_ble_eq_true rfl⟩) hW hS hA (fun r20 M19 H locs hW hS hf => ?_)
          exact gm_zret hx hb hr hlocks hW hS hf.1 hf.2 dX6_turnTo_48
  exact lp4 n4 _ _ _ _ _ _ (lv_sub hl [2, 1, 0] rfl) hW hS hf

abbrev rm_X6_tell : Room := { frames := 5, cells := 0, slots := 0, locals := 149 }
def f_X6_tell (Y : Ly) (v0 : Nat) (v1 : Int32) (M : Mm) (Kn : Int64 → Mm → Prop) : Prop :=
  ((v1 < 0 ∨ 5 ≤ v1) → (yK Y v0 = 6 ∧ (∃ b2 : Nat, mR M v0 0 = some b2 ∧ (∃ b3 : Nat, mR M v0 5 = some b3 ∧ (yK Y b3 = 10 ∧ (∃ b5 : Nat, mR M v0 5 = some b5 ∧ (yK Y b5 = 10 ∧ (f_X1_unsigned Y b2 (mI M b3 4) (if 8 < (mI M b5 5) then 8 else (mI M b5 5)) M (fun r8 M7 => (Kn r8 M7)))))))))) ∧ (v1 = 0 → (yK Y v0 = 6 ∧ (∃ b11 : Nat, mR M v0 0 = some b11 ∧ (f_X0_baseOf Y b11 (mI M v0 4) M (fun r13 M12 => (∃ b14 : Nat, mR M12 v0 5 = some b14 ∧ (yK Y b14 = 10 ∧ (Kn (r13 + (mJ M12 b14 1)) M12)))))))) ∧ (v1 = 1 → (yK Y v0 = 6 ∧ (∃ b17 : Nat, mR M v0 0 = some b17 ∧ (f_X0_firstTimeOf Y b17 (mI M v0 4) M (fun r19 M18 => (∃ b20 : Nat, mR M18 v0 5 = some b20 ∧ (yK Y b20 = 10 ∧ (Kn (r19 + (mJ M18 b20 0)) M18)))))))) ∧ (v1 = 2 → (yK Y v0 = 6 ∧ (∃ b23 : Nat, mR M v0 5 = some b23 ∧ (yK Y b23 = 10 ∧ (Kn ((mI M b23 3).toInt64) M))))) ∧ (v1 = 3 → (yK Y v0 = 6 ∧ (∃ b26 : Nat, mR M v0 0 = some b26 ∧ (∃ b27 : Nat, mR M v0 5 = some b27 ∧ (yK Y b27 = 10 ∧ (∃ b29 : Nat, mR M v0 5 = some b29 ∧ (yK Y b29 = 10 ∧ (f_X1_unsigned Y b26 (mI M b27 2) (if 8 < (mI M b29 3) then 8 else (mI M b29 3)) M (fun r32 M31 => (Kn r32 M31)))))))))) ∧ (v1 = 4 → (yK Y v0 = 6 ∧ (∃ b34 : Nat, mR M v0 5 = some b34 ∧ (yK Y b34 = 10 ∧ (Kn ((mI M b34 5).toInt64) M)))))
set_option maxHeartbeats 4000000 in
set_option maxRecDepth 100000 in
theorem m_X6_tell (l : Launch) (D : va_G) (cy : Cy) (tq sz : Nat) (Y : Ly) (v0 : Nat) (v1 : Int32) (M : Mm) (Kn : Int64 → Mm → Prop) : Met l yX6_tell (Cond.code yX6_tell cX6_tell 2 (some .long) :: TT) rm_X6_tell (PcG D cy tq [.ref v0, .int v1] sz Y M (f_X6_tell Y v0 v1 M Kn)) (va_Ql Kn (BG D cy (Am Y sz) Y) (Am Y sz)) 0 0 (Am Y sz) := by
  refine Met.ofW (cc := cX6_tell) (maxL := 2) (ret := (some .long)) (by decide) rfl ?_
  intro p e s m args below meth c s₁ B hml hv
  obtain ⟨hargs, hsz, hW, hK, hC, hf⟩ := hv
  subst hsz
  have hx := B.exec
  have hb := B.bytes
  have hr := B.returns
  have hts : ∀ w ∈ TT, w.before args s = true := fun w h => atoms_spec (ws := Cond.code yX6_tell cX6_tell 2 (some .long) :: TT) B.pre w (List.mem_cons_of_mem _ h)
  have hown : s.vm.findClass RX6 = some m.cls := findClass_of_methodNamed B.named
  have hlocks := B.notSynchronized
  replace hW := Wd_self (sz := s.heap.size) hW
  generalize hAe : Am Y s.heap.size = A at hW hC ⊢
  have hA : ∀ q : Nat, s.heap.size ≤ q → A q := fun q h => by rw [← hAe]; exact Or.inr h
  clear hAe
  have hS : va_S A s.heap s.heap [] := va_S.rf
  obtain ⟨ls, hE, hl⟩ := gm_entry m [.ref v0, .int v1] (n := 2) hargs (Nat.le_of_ble_eq_true rfl)
  rw [hE]
  have hl : lv_has ls 2 [(0, .ref v0), (1, .int v1)] := hl
  show W p l e rm_X6_tell s m args below meth c s.heap [] 0 0 (MQ below (va_Ql Kn (BG D cy A Y) A) args s 0 0 A) (F0 m 0 ls [])
  unfold f_X6_tell at hf
  refine lv_iload_n hx hb dX6_tell_0 rfl (lv_at hl 1 rfl) ?_
  rcases sw_split v1 5 (by decide) with c9 | ⟨kc9, hkc9, ec9⟩
  · replace hf := hf.1 c9
    refine lv_tableOut (tgt := 121) hx hb dX6_tell_1 (sw_int 5 (by decide) (by decide) c9) (by decide) ?_
    refine lv_aload_n hx hb dX6_tell_121 rfl (lv_at hl 0 rfl) ?_
    obtain ⟨k1, hf⟩ := hf
    obtain ⟨b2, hb2, hf⟩ := hf
    refine gm_getR (C := RX6) (T := TX6) (N := 6) (j := 0) hx hb hts inT_6 hown hK hW k1 (by decide) rfl (by decide) rfl (hts _ kw_115) rfl dX6_tell_122 hb2 ?_
    refine lv_aload_n hx hb dX6_tell_125 rfl (lv_at hl 0 rfl) ?_
    obtain ⟨b3, hb3, hf⟩ := hf
    refine gm_getR (C := RX6) (T := TX6) (N := 6) (j := 5) hx hb hts inT_6 hown hK hW k1 (by decide) rfl (by decide) rfl (hts _ kw_122) rfl dX6_tell_126 hb3 ?_
    obtain ⟨k4, hf⟩ := hf
    refine gm_getI (C := RX10) (T := TX10) (N := 8) (j := 4) hx hb hts inT_10 hown hK hW k4 (by decide) rfl (by decide) rfl (hts _ kw_82) rfl dX6_tell_129 ?_
    refine lv_aload_n hx hb dX6_tell_132 rfl (lv_at hl 0 rfl) ?_
    obtain ⟨b5, hb5, hf⟩ := hf
    refine gm_getR (C := RX6) (T := TX6) (N := 6) (j := 5) hx hb hts inT_6 hown hK hW k1 (by decide) rfl (by decide) rfl (hts _ kw_122) rfl dX6_tell_133 hb5 ?_
    obtain ⟨k6, hf⟩ := hf
    refine gm_getI (C := RX10) (T := TX10) (N := 8) (j := 5) hx hb hts inT_10 hown hK hW k6 (by decide) rfl (by decide) rfl (hts _ kw_85) rfl dX6_tell_136 ?_
    refine lv_bipush (v := 8) hx hb dX6_tell_139 (by decide +kernel) ?_
    refine va_mmin hx hb (by rw [hml]; exact hl.1.symm) hown (hts _ kw_1027) (hts _ kw_131) (hts _ kw_6) (hts _ kmath_minI) (Nat.le_of_ble_eq_true rfl) (Nat.le_of_ble_eq_true rfl) (Nat.zero_le _) (Nat.zero_le _) dX6_tell_141 ?_
    refine gm_cl (va_runS (As := [.ref b2, .int (mI M b3 4), .int (if 8 < (mI M b5 5) then 8 else (mI M b5 5))]) (rest := []) ⟨hx, hb, hml, hown, hts⟩ (m_X1_unsigned l D cy tq _ Y _ _ _ _ _) (va_cwS 3 hts (good_S kw_1028 kw_332 kw_17 kw_333) rfl rfl rfl (by decide +kernel) ⟨Nat.le_of_ble_eq_true rfl, Nat.le_of_ble_eq_true rfl⟩) (gm_preS hK hW hC hS hA hf) rfl rfl hl.1 rfl (lv_room (Nat.le_of_ble_eq_true rfl)) dX6_tell_144 ⟨Nat.le_of_ble_eq_true rfl, Nat.le_of_ble_eq_true rfl⟩) hW hS hA (fun r8 M7 H locs hW hS hf => ?_)
    exact gm_lret hx hb hr hlocks hW hS hf dX6_tell_147
  · rcases (show kc9 = 0 ∨ kc9 = 1 ∨ kc9 = 2 ∨ kc9 = 3 ∨ kc9 = 4 by omega) with rfl | rfl | rfl | rfl | rfl
    · replace hf := hf.2.1 ec9
      refine lv_tableIn (off := 35) (tgt := 36) hx hb dX6_tell_1 (by rw [ec9]; decide) (by rw [ec9]; decide) (by rw [ec9]; rfl) (by decide) ?_
      refine lv_aload_n hx hb dX6_tell_36 rfl (lv_at hl 0 rfl) ?_
      obtain ⟨k10, hf⟩ := hf
      obtain ⟨b11, hb11, hf⟩ := hf
      refine gm_getR (C := RX6) (T := TX6) (N := 6) (j := 0) hx hb hts inT_6 hown hK hW k10 (by decide) rfl (by decide) rfl (hts _ kw_115) rfl dX6_tell_37 hb11 ?_
      refine lv_aload_n hx hb dX6_tell_40 rfl (lv_at hl 0 rfl) ?_
      refine gm_getI (C := RX6) (T := TX6) (N := 6) (j := 4) hx hb hts inT_6 hown hK hW k10 (by decide) rfl (by decide) rfl (hts _ kw_121) rfl dX6_tell_41 ?_
      refine gm_cl (va_runS (As := [.ref b11, .int (mI M v0 4)]) (rest := []) ⟨hx, hb, hml, hown, hts⟩ (m_X0_baseOf l D cy tq _ Y _ _ _ _) (va_cwS 2 hts (good_S kw_1025 kw_788 kw_20 kw_789) rfl rfl rfl (by decide +kernel) ⟨Nat.le_of_ble_eq_true rfl, Nat.le_of_ble_eq_true rfl⟩) (gm_preS hK hW hC hS hA hf) rfl rfl hl.1 rfl (lv_room (Nat.le_of_ble_eq_true rfl)) dX6_tell_44 ⟨Nat.le_of_ble_eq_true rfl, Nat.le_of_ble_eq_true rfl⟩) hW hS hA (fun r13 M12 H locs hW hS hf => ?_)
      refine lv_aload_n hx hb dX6_tell_47 rfl (lv_at hl 0 rfl) ?_
      obtain ⟨b14, hb14, hf⟩ := hf
      refine gm_getR (C := RX6) (T := TX6) (N := 6) (j := 5) hx hb hts inT_6 hown hK hW k10 (by decide) rfl (by decide) rfl (hts _ kw_122) rfl dX6_tell_48 hb14 ?_
      obtain ⟨k15, hf⟩ := hf
      refine gm_getJ (C := RX10) (T := TX10) (N := 8) (j := 1) hx hb hts inT_10 hown hK hW k15 (by decide) rfl (by decide) rfl (hts _ kw_73) rfl dX6_tell_51 ?_
      refine lv_ladd hx hb dX6_tell_54 ?_
      exact gm_lret hx hb hr hlocks hW hS hf dX6_tell_55
    · replace hf := hf.2.2.1 ec9
      refine lv_tableIn (off := 55) (tgt := 56) hx hb dX6_tell_1 (by rw [ec9]; decide) (by rw [ec9]; decide) (by rw [ec9]; rfl) (by decide) ?_
      refine lv_aload_n hx hb dX6_tell_56 rfl (lv_at hl 0 rfl) ?_
      obtain ⟨k16, hf⟩ := hf
      obtain ⟨b17, hb17, hf⟩ := hf
      refine gm_getR (C := RX6) (T := TX6) (N := 6) (j := 0) hx hb hts inT_6 hown hK hW k16 (by decide) rfl (by decide) rfl (hts _ kw_115) rfl dX6_tell_57 hb17 ?_
      refine lv_aload_n hx hb dX6_tell_60 rfl (lv_at hl 0 rfl) ?_
      refine gm_getI (C := RX6) (T := TX6) (N := 6) (j := 4) hx hb hts inT_6 hown hK hW k16 (by decide) rfl (by decide) rfl (hts _ kw_121) rfl dX6_tell_61 ?_
      refine gm_cl (va_runS (As := [.ref b17, .int (mI M v0 4)]) (rest := []) ⟨hx, hb, hml, hown, hts⟩ (m_X0_firstTimeOf l D cy tq _ Y _ _ _ _) (va_cwS 2 hts (good_S kw_1026 kw_795 kw_20 kw_796) rfl rfl rfl (by decide +kernel) ⟨Nat.le_of_ble_eq_true rfl, Nat.le_of_ble_eq_true rfl⟩) (gm_preS hK hW hC hS hA hf) rfl rfl hl.1 rfl (lv_room (Nat.le_of_ble_eq_true rfl)) dX6_tell_64 ⟨Nat.le_of_ble_eq_true rfl, Nat.le_of_ble_eq_true rfl⟩) hW hS hA (fun r19 M18 H locs hW hS hf => ?_)
      refine lv_aload_n hx hb dX6_tell_67 rfl (lv_at hl 0 rfl) ?_
      obtain ⟨b20, hb20, hf⟩ := hf
      refine gm_getR (C := RX6) (T := TX6) (N := 6) (j := 5) hx hb hts inT_6 hown hK hW k16 (by decide) rfl (by decide) rfl (hts _ kw_122) rfl dX6_tell_68 hb20 ?_
      obtain ⟨k21, hf⟩ := hf
      refine gm_getJ (C := RX10) (T := TX10) (N := 8) (j := 0) hx hb hts inT_10 hown hK hW k21 (by decide) rfl (by decide) rfl (hts _ kw_69) rfl dX6_tell_71 ?_
      refine lv_ladd hx hb dX6_tell_74 ?_
      exact gm_lret hx hb hr hlocks hW hS hf dX6_tell_75
    · replace hf := hf.2.2.2.1 ec9
      refine lv_tableIn (off := 75) (tgt := 76) hx hb dX6_tell_1 (by rw [ec9]; decide) (by rw [ec9]; decide) (by rw [ec9]; rfl) (by decide) ?_
      refine lv_aload_n hx hb dX6_tell_76 rfl (lv_at hl 0 rfl) ?_
      obtain ⟨k22, hf⟩ := hf
      obtain ⟨b23, hb23, hf⟩ := hf
      refine gm_getR (C := RX6) (T := TX6) (N := 6) (j := 5) hx hb hts inT_6 hown hK hW k22 (by decide) rfl (by decide) rfl (hts _ kw_122) rfl dX6_tell_77 hb23 ?_
      obtain ⟨k24, hf⟩ := hf
      refine gm_getI (C := RX10) (T := TX10) (N := 8) (j := 3) hx hb hts inT_10 hown hK hW k24 (by decide) rfl (by decide) rfl (hts _ kw_80) rfl dX6_tell_80 ?_
      refine lv_i2l hx hb dX6_tell_83 rfl ?_
      exact gm_lret hx hb hr hlocks hW hS hf dX6_tell_84
    · replace hf := hf.2.2.2.2.1 ec9
      refine lv_tableIn (off := 84) (tgt := 85) hx hb dX6_tell_1 (by rw [ec9]; decide) (by rw [ec9]; decide) (by rw [ec9]; rfl) (by decide) ?_
      refine lv_aload_n hx hb dX6_tell_85 rfl (lv_at hl 0 rfl) ?_
      obtain ⟨k25, hf⟩ := hf
      obtain ⟨b26, hb26, hf⟩ := hf
      refine gm_getR (C := RX6) (T := TX6) (N := 6) (j := 0) hx hb hts inT_6 hown hK hW k25 (by decide) rfl (by decide) rfl (hts _ kw_115) rfl dX6_tell_86 hb26 ?_
      refine lv_aload_n hx hb dX6_tell_89 rfl (lv_at hl 0 rfl) ?_
      obtain ⟨b27, hb27, hf⟩ := hf
      refine gm_getR (C := RX6) (T := TX6) (N := 6) (j := 5) hx hb hts inT_6 hown hK hW k25 (by decide) rfl (by decide) rfl (hts _ kw_122) rfl dX6_tell_90 hb27 ?_
      obtain ⟨k28, hf⟩ := hf
      refine gm_getI (C := RX10) (T := TX10) (N := 8) (j := 2) hx hb hts inT_10 hown hK hW k28 (by decide) rfl (by decide) rfl (hts _ kw_77) rfl dX6_tell_93 ?_
      refine lv_aload_n hx hb dX6_tell_96 rfl (lv_at hl 0 rfl) ?_
      obtain ⟨b29, hb29, hf⟩ := hf
      refine gm_getR (C := RX6) (T := TX6) (N := 6) (j := 5) hx hb hts inT_6 hown hK hW k25 (by decide) rfl (by decide) rfl (hts _ kw_122) rfl dX6_tell_97 hb29 ?_
      obtain ⟨k30, hf⟩ := hf
      refine gm_getI (C := RX10) (T := TX10) (N := 8) (j := 3) hx hb hts inT_10 hown hK hW k30 (by decide) rfl (by decide) rfl (hts _ kw_80) rfl dX6_tell_100 ?_
      refine lv_bipush (v := 8) hx hb dX6_tell_103 (by decide +kernel) ?_
      refine va_mmin hx hb (by rw [hml]; exact hl.1.symm) hown (hts _ kw_1027) (hts _ kw_131) (hts _ kw_6) (hts _ kmath_minI) (Nat.le_of_ble_eq_true rfl) (Nat.le_of_ble_eq_true rfl) (Nat.zero_le _) (Nat.zero_le _) dX6_tell_105 ?_
      refine gm_cl (va_runS (As := [.ref b26, .int (mI M b27 2), .int (if 8 < (mI M b29 3) then 8 else (mI M b29 3))]) (rest := []) ⟨hx, hb, hml, hown, hts⟩ (m_X1_unsigned l D cy tq _ Y _ _ _ _ _) (va_cwS 3 hts (good_S kw_1028 kw_332 kw_17 kw_333) rfl rfl rfl (by decide +kernel) ⟨Nat.le_of_ble_eq_true rfl, Nat.le_of_ble_eq_true rfl⟩) (gm_preS hK hW hC hS hA hf) rfl rfl hl.1 rfl (lv_room (Nat.le_of_ble_eq_true rfl)) dX6_tell_108 ⟨Nat.le_of_ble_eq_true rfl, Nat.le_of_ble_eq_true rfl⟩) hW hS hA (fun r32 M31 H locs hW hS hf => ?_)
      exact gm_lret hx hb hr hlocks hW hS hf dX6_tell_111
    · replace hf := hf.2.2.2.2.2 ec9
      refine lv_tableIn (off := 111) (tgt := 112) hx hb dX6_tell_1 (by rw [ec9]; decide) (by rw [ec9]; decide) (by rw [ec9]; rfl) (by decide) ?_
      refine lv_aload_n hx hb dX6_tell_112 rfl (lv_at hl 0 rfl) ?_
      obtain ⟨k33, hf⟩ := hf
      obtain ⟨b34, hb34, hf⟩ := hf
      refine gm_getR (C := RX6) (T := TX6) (N := 6) (j := 5) hx hb hts inT_6 hown hK hW k33 (by decide) rfl (by decide) rfl (hts _ kw_122) rfl dX6_tell_113 hb34 ?_
      obtain ⟨k35, hf⟩ := hf
      refine gm_getI (C := RX10) (T := TX10) (N := 8) (j := 5) hx hb hts inT_10 hown hK hW k35 (by decide) rfl (by decide) rfl (hts _ kw_85) rfl dX6_tell_116 ?_
      refine lv_i2l hx hb dX6_tell_119 rfl ?_
      exact gm_lret hx hb hr hlocks hW hS hf dX6_tell_120

abbrev rm_X8_holds : Room := { frames := 3, cells := 0, slots := 0, locals := 105 }
def f_X8_holds (Y : Ly) (v0 : Nat) (v1 : Int64) (M : Mm) (Kn : Int32 → Mm → Prop) : Prop :=
  yK Y v0 = 8 ∧ (f_X11_isWithin Y v1 (mJ M v0 1) (mJ M v0 2) M (fun r3 M2 => (bz r3 ∧ Kn r3 M2)))
set_option maxHeartbeats 4000000 in
set_option maxRecDepth 100000 in
theorem m_X8_holds (l : Launch) (D : va_G) (cy : Cy) (tq sz : Nat) (Y : Ly) (v0 : Nat) (v1 : Int64) (M : Mm) (Kn : Int32 → Mm → Prop) : Met l yX8_holds (Cond.code yX8_holds cX8_holds 3 (some .boolean) :: TT) rm_X8_holds (PcG D cy tq [.ref v0, .long v1] sz Y M (f_X8_holds Y v0 v1 M Kn)) (va_Qi Kn (BG D cy (Am Y sz) Y) (Am Y sz)) 0 0 (Am Y sz) := by
  refine Met.ofW (cc := cX8_holds) (maxL := 3) (ret := (some .boolean)) (by decide) rfl ?_
  intro p e s m args below meth c s₁ B hml hv
  obtain ⟨hargs, hsz, hW, hK, hC, hf⟩ := hv
  subst hsz
  have hx := B.exec
  have hb := B.bytes
  have hr := B.returns
  have hts : ∀ w ∈ TT, w.before args s = true := fun w h => atoms_spec (ws := Cond.code yX8_holds cX8_holds 3 (some .boolean) :: TT) B.pre w (List.mem_cons_of_mem _ h)
  have hown : s.vm.findClass RX8 = some m.cls := findClass_of_methodNamed B.named
  have hlocks := B.notSynchronized
  replace hW := Wd_self (sz := s.heap.size) hW
  generalize hAe : Am Y s.heap.size = A at hW hC ⊢
  have hA : ∀ q : Nat, s.heap.size ≤ q → A q := fun q h => by rw [← hAe]; exact Or.inr h
  clear hAe
  have hS : va_S A s.heap s.heap [] := va_S.rf
  obtain ⟨ls, hE, hl⟩ := gm_entry m [.ref v0, .long v1] (n := 3) hargs (Nat.le_of_ble_eq_true rfl)
  rw [hE]
  have hl : lv_has ls 3 [(0, .ref v0), (1, .long v1)] := hl
  show W p l e rm_X8_holds s m args below meth c s.heap [] 0 0 (MQ below (va_Qi Kn (BG D cy A Y) A) args s 0 0 A) (F0 m 0 ls [])
  unfold f_X8_holds at hf
  refine lv_lload_n hx hb dX8_holds_0 rfl (lv_at hl 1 rfl) ?_
  refine lv_aload_n hx hb dX8_holds_1 rfl (lv_at hl 0 rfl) ?_
  obtain ⟨k1, hf⟩ := hf
  refine gm_getJ (C := RX8) (T := TX8) (N := 9) (j := 1) hx hb hts inT_8 hown hK hW k1 (by decide) rfl (by decide) rfl (hts _ kw_172) rfl dX8_holds_2 ?_
  refine lv_aload_n hx hb dX8_holds_5 rfl (lv_at hl 0 rfl) ?_
  refine gm_getJ (C := RX8) (T := TX8) (N := 9) (j := 2) hx hb hts inT_8 hown hK hW k1 (by decide) rfl (by decide) rfl (hts _ kw_175) rfl dX8_holds_6 ?_
  refine gm_ci (va_runSN (As := [.long v1, .long (mJ M v0 1), .long (mJ M v0 2)]) (rest := []) ⟨hx, hb, hml, hown, hts⟩ (m_X11_isWithin l D cy tq _ Y _ _ _ _ _) ⟨va_cnB 3 hts (good_C kw_462) rfl rfl rfl hC.2.2.2.1 (hts _ kw_1) (by decide +kernel) ⟨Nat.le_of_ble_eq_true rfl, Nat.le_of_ble_eq_true rfl⟩, hts _ kw_461, trivial⟩ (gm_preS hK hW hC hS hA hf) rfl rfl hl.1 rfl (lv_room (Nat.le_of_ble_eq_true rfl)) dX8_holds_9 ⟨Nat.le_of_ble_eq_true rfl, Nat.le_of_ble_eq_true rfl⟩) hW hS hA (fun r3 M2 H locs hW hS hf => ?_)
  exact gm_zret hx hb hr hlocks hW hS hf.1 hf.2 dX8_holds_12

abbrev rm_X8_init : Room := { frames := 2, cells := 4, slots := 4477, locals := 80 }
def f_X8_init (Y : Ly) (v0 : Nat) (v1 : Int32) (v2 : Int32) (M : Mm) (Kn : Ly → Mm → Prop) : Prop :=
  ∀ q1 : Nat, yK Y q1 = 0 → ∀ Y2 : Ly, Y2 = yNew Y q1 101 60 → ∀ M3 : Mm, M3 = mZ M q1 → (yK Y2 v0 = 8 ∧ (∀ M5 : Mm, M5 = sR M3 v0 (m1 (mR M3 v0) 4 (some q1)) → (∀ q6 : Nat, yK Y2 q6 = 0 → ∀ Y7 : Ly, Y7 = yNew Y2 q6 101 60 → ∀ M8 : Mm, M8 = mZ M5 q6 → (yK Y7 v0 = 8 ∧ (∀ M10 : Mm, M10 = sR M8 v0 (m1 (mR M8 v0) 5 (some q6)) → (∀ q11 : Nat, yK Y7 q11 = 0 → ∀ Y12 : Ly, Y12 = yNew Y7 q11 101 60 → ∀ M13 : Mm, M13 = mZ M10 q11 → (yK Y12 v0 = 8 ∧ (∀ M15 : Mm, M15 = sR M13 v0 (m1 (mR M13 v0) 6 (some q11)) → (∀ M16 : Mm, M16 = sI M15 v0 (m1 (mI M15 v0) 0 v1) → (¬ v2 < 0 ∧ (v2.toNatClampNeg ≤ 4297 ∧ (∀ q19 : Nat, yK Y12 q19 = 0 → ∀ Y20 : Ly, Y20 = yNew Y12 q19 101 v2.toNatClampNeg → ∀ M21 : Mm, M21 = mZ M16 q19 → (yK Y20 v0 = 8 ∧ (∀ M23 : Mm, M23 = sR M21 v0 (m1 (mR M21 v0) 8 (some q19)) → (Kn Y20 M23)))))))))))))))
set_option maxHeartbeats 4000000 in
set_option maxRecDepth 100000 in
theorem m_X8_init (l : Launch) (D : va_G) (cy : Cy) (tq sz : Nat) (Y : Ly) (v0 : Nat) (v1 : Int32) (v2 : Int32) (M : Mm) (Kn : Ly → Mm → Prop) : Met l yX8_init (Cond.code yX8_init cX8_init 3 none :: TT) rm_X8_init (PcG D cy tq [.ref v0, .int v1, .int v2] sz Y M (f_X8_init Y v0 v1 v2 M Kn)) (QA D cy (Am Y sz) Kn) 4 4477 (Am Y sz) := by
  refine Met.ofW (cc := cX8_init) (maxL := 3) (ret := none) (by decide) rfl ?_
  intro p e s m args below meth c s₁ B hml hv
  obtain ⟨hargs, hsz, hW, hK, hC, hf⟩ := hv
  subst hsz
  have hx := B.exec
  have hb := B.bytes
  have hr := B.returns
  have hts : ∀ w ∈ TT, w.before args s = true := fun w h => atoms_spec (ws := Cond.code yX8_init cX8_init 3 none :: TT) B.pre w (List.mem_cons_of_mem _ h)
  have hown : s.vm.findClass RX8 = some m.cls := findClass_of_methodNamed B.named
  have hlocks := B.notSynchronized
  have hin : meth.name = "<init>" := (name_of_methodNamed B.named B.method).1
  replace hW := Wd_self (sz := s.heap.size) hW
  generalize hAe : Am Y s.heap.size = A at hW hC ⊢
  have hA : ∀ q : Nat, s.heap.size ≤ q → A q := fun q h => by rw [← hAe]; exact Or.inr h
  clear hAe
  have hS : va_S A s.heap s.heap [] := va_S.rf
  obtain ⟨ls, hE, hl⟩ := gm_entry m [.ref v0, .int v1, .int v2] (n := 3) hargs (Nat.le_of_ble_eq_true rfl)
  rw [hE]
  have hl : lv_has ls 3 [(0, .ref v0), (1, .int v1), (2, .int v2)] := hl
  show W p l e rm_X8_init s m args below meth c s.heap [] 0 0 (MQ below (QA D cy A Kn) args s 4 4477 A) (F0 m 0 ls [])
  unfold f_X8_init at hf
  refine lv_aload_n hx hb dX8_init_0 rfl (lv_at hl 0 rfl) ?_
  refine W.objInit hx hb hown (hts _ kw_169) (hts _ kw_36) (hts _ kw_37) rfl (by rw [hml]; exact hl.1) rfl dX8_init_1 (Nat.le_of_ble_eq_true rfl) (Nat.le_of_ble_eq_true rfl) ?_
  refine W.eq (g2 := F0 m 4 ls []) rfl ?_
  refine lv_aload_n hx hb dX8_init_4 rfl (lv_at hl 0 rfl) ?_
  refine lv_bipush (v := 60) hx hb dX8_init_5 (by decide +kernel) ?_
  refine gm_newi hx hb (hts _ kw_129) hK hW hS hA (n := 60) 60 (by decide +kernel) (by decide +kernel) (Nat.le_refl _) (by decide) (by show _ ≤ 4; omega) (by show _ ≤ 4477; omega) dX8_init_7 (fun q1 H Y2 M3 h0q1 eY2 eM3 hW hS => ?_)
  replace hf := hf q1 h0q1 Y2 eY2 M3 eM3
  obtain ⟨k4, hf⟩ := hf
  refine gm_putFR (C := RX8) (T := TX8) (N := 9) (j := 4) hx hb hts inT_8 tyX8 tyX8_ok nmX8 hown hK hW hS k4 (by decide) rfl (by decide) rfl (hts _ kw_182) rfl rfl hin rfl rfl rfl dX8_init_9 (fun H locs M5 eM5 hW hS => ?_)
  replace hf := hf M5 eM5
  refine lv_aload_n hx hb dX8_init_12 rfl (lv_at hl 0 rfl) ?_
  refine lv_bipush (v := 60) hx hb dX8_init_13 (by decide +kernel) ?_
  refine gm_newi hx hb (hts _ kw_129) hK hW hS hA (n := 60) 60 (by decide +kernel) (by decide +kernel) (Nat.le_refl _) (by decide) (by show _ ≤ 4; omega) (by show _ ≤ 4477; omega) dX8_init_15 (fun q6 H Y7 M8 h0q6 eY7 eM8 hW hS => ?_)
  replace hf := hf q6 h0q6 Y7 eY7 M8 eM8
  obtain ⟨k9, hf⟩ := hf
  refine gm_putFR (C := RX8) (T := TX8) (N := 9) (j := 5) hx hb hts inT_8 tyX8 tyX8_ok nmX8 hown hK hW hS k9 (by decide) rfl (by decide) rfl (hts _ kw_185) rfl rfl hin rfl rfl rfl dX8_init_17 (fun H locs M10 eM10 hW hS => ?_)
  replace hf := hf M10 eM10
  refine lv_aload_n hx hb dX8_init_20 rfl (lv_at hl 0 rfl) ?_
  refine lv_bipush (v := 60) hx hb dX8_init_21 (by decide +kernel) ?_
  refine gm_newi hx hb (hts _ kw_129) hK hW hS hA (n := 60) 60 (by decide +kernel) (by decide +kernel) (Nat.le_refl _) (by decide) (by show _ ≤ 4; omega) (by show _ ≤ 4477; omega) dX8_init_23 (fun q11 H Y12 M13 h0q11 eY12 eM13 hW hS => ?_)
  replace hf := hf q11 h0q11 Y12 eY12 M13 eM13
  obtain ⟨k14, hf⟩ := hf
  refine gm_putFR (C := RX8) (T := TX8) (N := 9) (j := 6) hx hb hts inT_8 tyX8 tyX8_ok nmX8 hown hK hW hS k14 (by decide) rfl (by decide) rfl (hts _ kw_187) rfl rfl hin rfl rfl rfl dX8_init_25 (fun H locs M15 eM15 hW hS => ?_)
  replace hf := hf M15 eM15
  refine lv_aload_n hx hb dX8_init_28 rfl (lv_at hl 0 rfl) ?_
  refine lv_iload_n hx hb dX8_init_29 rfl (lv_at hl 1 rfl) ?_
  refine gm_putFI (C := RX8) (T := TX8) (N := 9) (j := 0) hx hb hts inT_8 tyX8 tyX8_ok nmX8 hown hK hW hS k14 (by decide) rfl (by decide) rfl (hts _ kw_170) rfl rfl hin rfl rfl rfl dX8_init_30 (fun H locs M16 eM16 hW hS => ?_)
  replace hf := hf M16 eM16
  refine lv_aload_n hx hb dX8_init_33 rfl (lv_at hl 0 rfl) ?_
  refine lv_iload_n hx hb dX8_init_34 rfl (lv_at hl 2 rfl) ?_
  obtain ⟨h17, h18, hf⟩ := hf
  refine gm_newi hx hb (hts _ kw_129) hK hW hS hA (n := _) 4297 h17 rfl h18 (by decide) (by show _ ≤ 4; omega) (by show _ ≤ 4477; omega) dX8_init_35 (fun q19 H Y20 M21 h0q19 eY20 eM21 hW hS => ?_)
  replace hf := hf q19 h0q19 Y20 eY20 M21 eM21
  obtain ⟨k22, hf⟩ := hf
  refine gm_putFR (C := RX8) (T := TX8) (N := 9) (j := 8) hx hb hts inT_8 tyX8 tyX8_ok nmX8 hown hK hW hS k22 (by decide) rfl (by decide) rfl (hts _ kw_195) rfl rfl hin rfl rfl rfl dX8_init_37 (fun H locs M23 eM23 hW hS => ?_)
  replace hf := hf M23 eM23
  refine W.widen (k := 4) (n := 4477) (by omega) (by omega) ?_
  exact gm_vretA hx hb hr hlocks hW hS hf dX8_init_40

abbrev rm_X8_countBytes : Room := { frames := 2, cells := 0, slots := 0, locals := 80 }
def L_X8_countBytes_4 (Y : Ly) (v0 : Nat) (M : Mm) (Kn : Int64 → Mm → Prop) (x1 : Int64) (x2 : Int32) (again4 : Int64 → Int32 → Prop) : Prop :=
  yK Y v0 = 8 ∧ (((mI M v0 3) ≤ x2 → (Kn x1 M)) ∧ (¬ ((mI M v0 3) ≤ x2) → (∃ b5 : Nat, mR M v0 5 = some b5 ∧ (yK Y b5 = 101 ∧ (vp_in x2 (yN Y b5) ∧ (∀ x8 : Int64, x8 = x1 + ((mI M b5 x2.toNatClampNeg).toInt64) → (∀ x9 : Int32, x9 = x2 + 1 → (again4 x8 x9))))))))
def f_X8_countBytes (Y : Ly) (v0 : Nat) (M : Mm) (Kn : Int64 → Mm → Prop) : Prop :=
  ∃ n, LOOP2 (L_X8_countBytes_4 Y v0 M Kn) n 0 0
set_option maxHeartbeats 4000000 in
set_option maxRecDepth 100000 in
theorem m_X8_countBytes (l : Launch) (D : va_G) (cy : Cy) (tq sz : Nat) (Y : Ly) (v0 : Nat) (M : Mm) (Kn : Int64 → Mm → Prop) : Met l yX8_countBytes (Cond.code yX8_countBytes cX8_countBytes 4 (some .long) :: TT) rm_X8_countBytes (PcG D cy tq [.ref v0] sz Y M (f_X8_countBytes Y v0 M Kn)) (va_Ql Kn (BG D cy (Am Y sz) Y) (Am Y sz)) 0 0 (Am Y sz) := by
  refine Met.ofW (cc := cX8_countBytes) (maxL := 4) (ret := (some .long)) (by decide) rfl ?_
  intro p e s m args below meth c s₁ B hml hv
  obtain ⟨hargs, hsz, hW, hK, hC, hf⟩ := hv
  subst hsz
  have hx := B.exec
  have hb := B.bytes
  have hr := B.returns
  have hts : ∀ w ∈ TT, w.before args s = true := fun w h => atoms_spec (ws := Cond.code yX8_countBytes cX8_countBytes 4 (some .long) :: TT) B.pre w (List.mem_cons_of_mem _ h)
  have hown : s.vm.findClass RX8 = some m.cls := findClass_of_methodNamed B.named
  have hlocks := B.notSynchronized
  replace hW := Wd_self (sz := s.heap.size) hW
  generalize hAe : Am Y s.heap.size = A at hW hC ⊢
  have hA : ∀ q : Nat, s.heap.size ≤ q → A q := fun q h => by rw [← hAe]; exact Or.inr h
  clear hAe
  have hS : va_S A s.heap s.heap [] := va_S.rf
  obtain ⟨ls, hE, hl⟩ := gm_entry m [.ref v0] (n := 4) hargs (Nat.le_of_ble_eq_true rfl)
  rw [hE]
  have hl : lv_has ls 4 [(0, .ref v0)] := hl
  show W p l e rm_X8_countBytes s m args below meth c s.heap [] 0 0 (MQ below (va_Ql Kn (BG D cy A Y) A) args s 0 0 A) (F0 m 0 ls [])
  unfold f_X8_countBytes at hf
  refine lv_lconst (v := 0) hx hb dX8_countBytes_0 (by decide) ?_
  refine lv_lstore_n (lv' := [(1, .long 0), (0, .ref v0)]) hx hb dX8_countBytes_1 rfl hl (by decide) rfl (fun ls hl => ?_)
  refine lv_iconst (v := 0) hx hb dX8_countBytes_2 (by decide +kernel) ?_
  refine lv_istore_n (lv' := [(3, .int 0), (1, .long 0), (0, .ref v0)]) hx hb dX8_countBytes_3 rfl hl (by decide) rfl (fun ls hl => ?_)
  obtain ⟨n4, hf⟩ := hf
  have lp4 : ∀ (n4 : Nat) (x1 : Int64) (x2 : Int32) (H : Heap) (locs : List Loc) (ls : Array Slot), lv_has ls 4 [(0, .ref v0), (1, .long x1), (3, .int x2)] → Wd D cy A Y M H → va_S A s.heap H locs → LOOP2 (L_X8_countBytes_4 Y v0 M Kn) n4 x1 x2 → W p l e rm_X8_countBytes s m args below meth c H locs 0 0 (MQ below (va_Ql Kn (BG D cy A Y) A) args s 0 0 A) (F0 m 4 ls []) := by
    intro n4
    induction n4 with
    | zero => intro x1 x2 H locs ls hl hW hS hf; exact hf.elim
    | succ n4 ih4 =>
      intro x1 x2 H locs ls hl hW hS hf
      replace hf : L_X8_countBytes_4 Y v0 M Kn x1 x2 (LOOP2 (L_X8_countBytes_4 Y v0 M Kn) n4) := hf
      unfold L_X8_countBytes_4 at hf
      refine lv_iload_n hx hb dX8_countBytes_4 rfl (lv_at hl 2 rfl) ?_
      refine lv_aload_n hx hb dX8_countBytes_5 rfl (lv_at hl 0 rfl) ?_
      obtain ⟨k3, hf⟩ := hf
      refine gm_getI (C := RX8) (T := TX8) (N := 9) (j := 3) hx hb hts inT_8 hown hK hW k3 (by decide) rfl (by decide) rfl (hts _ kw_179) rfl dX8_countBytes_6 ?_
      refine lv_icmp_ge (tgt := 28) hx hb dX8_countBytes_9 (by decide) (fun c4 => ?_) (fun c4 => ?_)
      · replace hf := hf.1 c4
        refine lv_lload_n hx hb dX8_countBytes_28 rfl (lv_at hl 1 rfl) ?_
        exact gm_lret hx hb hr hlocks hW hS hf dX8_countBytes_29
      · replace hf := hf.2 c4
        refine lv_lload_n hx hb dX8_countBytes_12 rfl (lv_at hl 1 rfl) ?_
        refine lv_aload_n hx hb dX8_countBytes_13 rfl (lv_at hl 0 rfl) ?_
        obtain ⟨b5, hb5, hf⟩ := hf
        refine gm_getR (C := RX8) (T := TX8) (N := 9) (j := 5) hx hb hts inT_8 hown hK hW k3 (by decide) rfl (by decide) rfl (hts _ kw_185) rfl dX8_countBytes_14 hb5 ?_
        refine lv_iload_n hx hb dX8_countBytes_17 rfl (lv_at hl 2 rfl) ?_
        obtain ⟨k6, hf⟩ := hf
        obtain ⟨h7, hf⟩ := hf
        refine gm_iald hx hb hK hW k6 h7 dX8_countBytes_18 ?_
        refine lv_i2l hx hb dX8_countBytes_19 rfl ?_
        refine lv_ladd hx hb dX8_countBytes_20 ?_
        refine lv_topl (fun x8 ex8 => ?_)
        replace hf := hf x8 ex8
        refine lv_lstore_n (lv' := [(1, .long x8), (0, .ref v0), (3, .int x2)]) hx hb dX8_countBytes_21 rfl hl (by decide) rfl (fun ls hl => ?_)
        obtain ⟨x9, ex9⟩ : ∃ y : Int32, y = x2 + 1 := ⟨_, rfl⟩
        replace hf := hf x9 ex9
        refine lv_iinc (v := x9) (lv' := [(3, .int x9), (1, .long x8), (0, .ref v0)]) hx hb dX8_countBytes_22 hl (k := 2) rfl (by rw [ex9]; rfl) (by decide) rfl (fun ls hl => ?_)
        refine lv_goto (tgt := 4) hx hb dX8_countBytes_25 (by decide) ?_
        exact ih4 _ _ _ _ _ (lv_sub hl [2, 1, 0] rfl) hW hS hf
  exact lp4 n4 _ _ _ _ _ (lv_sub hl [2, 1, 0] rfl) hW hS hf

abbrev rm_X8_dropFirst : Room := { frames := 2, cells := 0, slots := 0, locals := 80 }
def L_X8_dropFirst_4 (Y : Ly) (v0 : Nat) (v1 : Int32) (M : Mm) (Kn : Mm → Prop) (x1 : Int32) (x2 : Int32) (again4 : Int32 → Int32 → Prop) : Prop :=
  (v1 ≤ x2 → (yK Y v0 = 8 ∧ (∃ b5 : Nat, mR M v0 8 = some b5 ∧ (∃ b6 : Nat, mR M v0 8 = some b6 ∧ (yK Y b5 = 101 ∧ (yK Y b6 = 101 ∧ (((¬ x1 < 0) ∧ (¬ (0 : Int32) < 0) ∧ (¬ ((mI M v0 7) - x1) < 0) ∧ x1.toNatClampNeg + ((mI M v0 7) - x1).toNatClampNeg ≤ yN Y b5 ∧ (0 : Int32).toNatClampNeg + ((mI M v0 7) - x1).toNatClampNeg ≤ yN Y b6) ∧ (∀ M10 : Mm, M10 = sI M b6 (va_cpy (mI M b5) (mI M b6) x1.toNatClampNeg (0 : Int32).toNatClampNeg ((mI M v0 7) - x1).toNatClampNeg) → (∀ M11 : Mm, M11 = sI M10 v0 (m1 (mI M10 v0) 7 ((mI M10 v0 7) - x1)) → (∃ b12 : Nat, mR M11 v0 4 = some b12 ∧ (∃ b13 : Nat, mR M11 v0 4 = some b13 ∧ (yK Y b12 = 101 ∧ (yK Y b13 = 101 ∧ (((¬ v1 < 0) ∧ (¬ (0 : Int32) < 0) ∧ (¬ ((mI M11 v0 3) - v1) < 0) ∧ v1.toNatClampNeg + ((mI M11 v0 3) - v1).toNatClampNeg ≤ yN Y b12 ∧ (0 : Int32).toNatClampNeg + ((mI M11 v0 3) - v1).toNatClampNeg ≤ yN Y b13) ∧ (∀ M17 : Mm, M17 = sI M11 b13 (va_cpy (mI M11 b12) (mI M11 b13) v1.toNatClampNeg (0 : Int32).toNatClampNeg ((mI M11 v0 3) - v1).toNatClampNeg) → (∃ b18 : Nat, mR M17 v0 5 = some b18 ∧ (∃ b19 : Nat, mR M17 v0 5 = some b19 ∧ (yK Y b18 = 101 ∧ (yK Y b19 = 101 ∧ (((¬ v1 < 0) ∧ (¬ (0 : Int32) < 0) ∧ (¬ ((mI M17 v0 3) - v1) < 0) ∧ v1.toNatClampNeg + ((mI M17 v0 3) - v1).toNatClampNeg ≤ yN Y b18 ∧ (0 : Int32).toNatClampNeg + ((mI M17 v0 3) - v1).toNatClampNeg ≤ yN Y b19) ∧ (∀ M23 : Mm, M23 = sI M17 b19 (va_cpy (mI M17 b18) (mI M17 b19) v1.toNatClampNeg (0 : Int32).toNatClampNeg ((mI M17 v0 3) - v1).toNatClampNeg) → (∃ b24 : Nat, mR M23 v0 6 = some b24 ∧ (∃ b25 : Nat, mR M23 v0 6 = some b25 ∧ (yK Y b24 = 101 ∧ (yK Y b25 = 101 ∧ (((¬ v1 < 0) ∧ (¬ (0 : Int32) < 0) ∧ (¬ ((mI M23 v0 3) - v1) < 0) ∧ v1.toNatClampNeg + ((mI M23 v0 3) - v1).toNatClampNeg ≤ yN Y b24 ∧ (0 : Int32).toNatClampNeg + ((mI M23 v0 3) - v1).toNatClampNeg ≤ yN Y b25) ∧ (∀ M29 : Mm, M29 = sI M23 b25 (va_cpy (mI M23 b24) (mI M23 b25) v1.toNatClampNeg (0 : Int32).toNatClampNeg ((mI M23 v0 3) - v1).toNatClampNeg) → (∀ M30 : Mm, M30 = sI M29 v0 (m1 (mI M29 v0) 3 ((mI M29 v0 3) - v1)) → (Kn M30))))))))))))))))))))))))))))) ∧ (¬ (v1 ≤ x2) → (yK Y v0 = 8 ∧ (∃ b32 : Nat, mR M v0 6 = some b32 ∧ (yK Y b32 = 101 ∧ (vp_in x2 (yN Y b32) ∧ (∀ x35 : Int32, x35 = x1 + (mI M b32 x2.toNatClampNeg) → (∀ x36 : Int32, x36 = x2 + 1 → (again4 x35 x36))))))))
def f_X8_dropFirst (Y : Ly) (v0 : Nat) (v1 : Int32) (M : Mm) (Kn : Mm → Prop) : Prop :=
  ∃ n, LOOP2 (L_X8_dropFirst_4 Y v0 v1 M Kn) n 0 0
set_option maxHeartbeats 4000000 in
set_option maxRecDepth 100000 in
theorem m_X8_dropFirst (l : Launch) (D : va_G) (cy : Cy) (tq sz : Nat) (Y : Ly) (v0 : Nat) (v1 : Int32) (M : Mm) (Kn : Mm → Prop) : Met l yX8_dropFirst (Cond.code yX8_dropFirst cX8_dropFirst 4 none :: TT) rm_X8_dropFirst (PcG D cy tq [.ref v0, .int v1] sz Y M (f_X8_dropFirst Y v0 v1 M Kn)) (va_Qv Kn (BG D cy (Am Y sz) Y) (Am Y sz)) 0 0 (Am Y sz) := by
  refine Met.ofW (cc := cX8_dropFirst) (maxL := 4) (ret := none) (by decide) rfl ?_
  intro p e s m args below meth c s₁ B hml hv
  obtain ⟨hargs, hsz, hW, hK, hC, hf⟩ := hv
  subst hsz
  have hx := B.exec
  have hb := B.bytes
  have hr := B.returns
  have hts : ∀ w ∈ TT, w.before args s = true := fun w h => atoms_spec (ws := Cond.code yX8_dropFirst cX8_dropFirst 4 none :: TT) B.pre w (List.mem_cons_of_mem _ h)
  have hown : s.vm.findClass RX8 = some m.cls := findClass_of_methodNamed B.named
  have hlocks := B.notSynchronized
  replace hW := Wd_self (sz := s.heap.size) hW
  generalize hAe : Am Y s.heap.size = A at hW hC ⊢
  have hA : ∀ q : Nat, s.heap.size ≤ q → A q := fun q h => by rw [← hAe]; exact Or.inr h
  clear hAe
  have hS : va_S A s.heap s.heap [] := va_S.rf
  obtain ⟨ls, hE, hl⟩ := gm_entry m [.ref v0, .int v1] (n := 4) hargs (Nat.le_of_ble_eq_true rfl)
  rw [hE]
  have hl : lv_has ls 4 [(0, .ref v0), (1, .int v1)] := hl
  show W p l e rm_X8_dropFirst s m args below meth c s.heap [] 0 0 (MQ below (va_Qv Kn (BG D cy A Y) A) args s 0 0 A) (F0 m 0 ls [])
  unfold f_X8_dropFirst at hf
  refine lv_iconst (v := 0) hx hb dX8_dropFirst_0 (by decide +kernel) ?_
  refine lv_istore_n (lv' := [(2, .int 0), (0, .ref v0), (1, .int v1)]) hx hb dX8_dropFirst_1 rfl hl (by decide) rfl (fun ls hl => ?_)
  refine lv_iconst (v := 0) hx hb dX8_dropFirst_2 (by decide +kernel) ?_
  refine lv_istore_n (lv' := [(3, .int 0), (2, .int 0), (0, .ref v0), (1, .int v1)]) hx hb dX8_dropFirst_3 rfl hl (by decide) rfl (fun ls hl => ?_)
  obtain ⟨n4, hf⟩ := hf
  have lp4 : ∀ (n4 : Nat) (x1 : Int32) (x2 : Int32) (H : Heap) (locs : List Loc) (ls : Array Slot), lv_has ls 4 [(0, .ref v0), (1, .int v1), (2, .int x1), (3, .int x2)] → Wd D cy A Y M H → va_S A s.heap H locs → LOOP2 (L_X8_dropFirst_4 Y v0 v1 M Kn) n4 x1 x2 → W p l e rm_X8_dropFirst s m args below meth c H locs 0 0 (MQ below (va_Qv Kn (BG D cy A Y) A) args s 0 0 A) (F0 m 4 ls []) := by
    intro n4
    induction n4 with
    | zero => intro x1 x2 H locs ls hl hW hS hf; exact hf.elim
    | succ n4 ih4 =>
      intro x1 x2 H locs ls hl hW hS hf
      replace hf : L_X8_dropFirst_4 Y v0 v1 M Kn x1 x2 (LOOP2 (L_X8_dropFirst_4 Y v0 v1 M Kn) n4) := hf
      unfold L_X8_dropFirst_4 at hf
      refine lv_iload_n hx hb dX8_dropFirst_4 rfl (lv_at hl 3 rfl) ?_
      refine lv_iload_n hx hb dX8_dropFirst_5 rfl (lv_at hl 1 rfl) ?_
      refine lv_icmp_ge (tgt := 24) hx hb dX8_dropFirst_6 (by decide) (fun c3 => ?_) (fun c3 => ?_)
      · replace hf := hf.1 c3
        refine lv_aload_n hx hb dX8_dropFirst_24 rfl (lv_at hl 0 rfl) ?_
        obtain ⟨k4, hf⟩ := hf
        obtain ⟨b5, hb5, hf⟩ := hf
        refine gm_getR (C := RX8) (T := TX8) (N := 9) (j := 8) hx hb hts inT_8 hown hK hW k4 (by decide) rfl (by decide) rfl (hts _ kw_195) rfl dX8_dropFirst_25 hb5 ?_
        refine lv_iload_n hx hb dX8_dropFirst_28 rfl (lv_at hl 2 rfl) ?_
        refine lv_aload_n hx hb dX8_dropFirst_29 rfl (lv_at hl 0 rfl) ?_
        obtain ⟨b6, hb6, hf⟩ := hf
        refine gm_getR (C := RX8) (T := TX8) (N := 9) (j := 8) hx hb hts inT_8 hown hK hW k4 (by decide) rfl (by decide) rfl (hts _ kw_195) rfl dX8_dropFirst_30 hb6 ?_
        refine lv_iconst (v := 0) hx hb dX8_dropFirst_33 (by decide +kernel) ?_
        refine lv_aload_n hx hb dX8_dropFirst_34 rfl (lv_at hl 0 rfl) ?_
        refine gm_getI (C := RX8) (T := TX8) (N := 9) (j := 7) hx hb hts inT_8 hown hK hW k4 (by decide) rfl (by decide) rfl (hts _ kw_191) rfl dX8_dropFirst_35 ?_
        refine lv_iload_n hx hb dX8_dropFirst_38 rfl (lv_at hl 2 rfl) ?_
        refine lv_isub hx hb dX8_dropFirst_39 ?_
        obtain ⟨k7, hf⟩ := hf
        obtain ⟨k8, hf⟩ := hf
        obtain ⟨h9, hf⟩ := hf
        refine gm_copyi hx hb (by rw [hml]; exact hl.1.symm) hown (hts _ kw_1061) (hts _ kw_534) (hts _ kw_533) (hts _ kw_19) hK hW hS k7 k8 h9 (Nat.le_of_ble_eq_true rfl) (Nat.le_of_ble_eq_true rfl) dX8_dropFirst_40 (fun H locs M10 eM10 hW hS => ?_)
        replace hf := hf M10 eM10
        refine lv_aload_n hx hb dX8_dropFirst_43 rfl (lv_at hl 0 rfl) ?_
        refine lv_dup hx hb dX8_dropFirst_44 rfl ?_
        refine gm_getI (C := RX8) (T := TX8) (N := 9) (j := 7) hx hb hts inT_8 hown hK hW k4 (by decide) rfl (by decide) rfl (hts _ kw_191) rfl dX8_dropFirst_45 ?_
        refine lv_iload_n hx hb dX8_dropFirst_48 rfl (lv_at hl 2 rfl) ?_
        refine lv_isub hx hb dX8_dropFirst_49 ?_
        refine gm_putI (C := RX8) (T := TX8) (N := 9) (j := 7) hx hb hts inT_8 tyX8 tyX8_ok nmX8 hown hK hW hS k4 (by decide) rfl (by decide) rfl (hts _ kw_191) rfl rfl rfl rfl dX8_dropFirst_50 (fun H locs M11 eM11 hW hS => ?_)
        replace hf := hf M11 eM11
        refine lv_aload_n hx hb dX8_dropFirst_53 rfl (lv_at hl 0 rfl) ?_
        obtain ⟨b12, hb12, hf⟩ := hf
        refine gm_getR (C := RX8) (T := TX8) (N := 9) (j := 4) hx hb hts inT_8 hown hK hW k4 (by decide) rfl (by decide) rfl (hts _ kw_182) rfl dX8_dropFirst_54 hb12 ?_
        refine lv_iload_n hx hb dX8_dropFirst_57 rfl (lv_at hl 1 rfl) ?_
        refine lv_aload_n hx hb dX8_dropFirst_58 rfl (lv_at hl 0 rfl) ?_
        obtain ⟨b13, hb13, hf⟩ := hf
        refine gm_getR (C := RX8) (T := TX8) (N := 9) (j := 4) hx hb hts inT_8 hown hK hW k4 (by decide) rfl (by decide) rfl (hts _ kw_182) rfl dX8_dropFirst_59 hb13 ?_
        refine lv_iconst (v := 0) hx hb dX8_dropFirst_62 (by decide +kernel) ?_
        refine lv_aload_n hx hb dX8_dropFirst_63 rfl (lv_at hl 0 rfl) ?_
        refine gm_getI (C := RX8) (T := TX8) (N := 9) (j := 3) hx hb hts inT_8 hown hK hW k4 (by decide) rfl (by decide) rfl (hts _ kw_179) rfl dX8_dropFirst_64 ?_
        refine lv_iload_n hx hb dX8_dropFirst_67 rfl (lv_at hl 1 rfl) ?_
        refine lv_isub hx hb dX8_dropFirst_68 ?_
        obtain ⟨k14, hf⟩ := hf
        obtain ⟨k15, hf⟩ := hf
        obtain ⟨h16, hf⟩ := hf
        refine gm_copyi hx hb (by rw [hml]; exact hl.1.symm) hown (hts _ kw_1061) (hts _ kw_534) (hts _ kw_533) (hts _ kw_19) hK hW hS k14 k15 h16 (Nat.le_of_ble_eq_true rfl) (Nat.le_of_ble_eq_true rfl) dX8_dropFirst_69 (fun H locs M17 eM17 hW hS => ?_)
        replace hf := hf M17 eM17
        refine lv_aload_n hx hb dX8_dropFirst_72 rfl (lv_at hl 0 rfl) ?_
        obtain ⟨b18, hb18, hf⟩ := hf
        refine gm_getR (C := RX8) (T := TX8) (N := 9) (j := 5) hx hb hts inT_8 hown hK hW k4 (by decide) rfl (by decide) rfl (hts _ kw_185) rfl dX8_dropFirst_73 hb18 ?_
        refine lv_iload_n hx hb dX8_dropFirst_76 rfl (lv_at hl 1 rfl) ?_
        refine lv_aload_n hx hb dX8_dropFirst_77 rfl (lv_at hl 0 rfl) ?_
        obtain ⟨b19, hb19, hf⟩ := hf
        refine gm_getR (C := RX8) (T := TX8) (N := 9) (j := 5) hx hb hts inT_8 hown hK hW k4 (by decide) rfl (by decide) rfl (hts _ kw_185) rfl dX8_dropFirst_78 hb19 ?_
        refine lv_iconst (v := 0) hx hb dX8_dropFirst_81 (by decide +kernel) ?_
        refine lv_aload_n hx hb dX8_dropFirst_82 rfl (lv_at hl 0 rfl) ?_
        refine gm_getI (C := RX8) (T := TX8) (N := 9) (j := 3) hx hb hts inT_8 hown hK hW k4 (by decide) rfl (by decide) rfl (hts _ kw_179) rfl dX8_dropFirst_83 ?_
        refine lv_iload_n hx hb dX8_dropFirst_86 rfl (lv_at hl 1 rfl) ?_
        refine lv_isub hx hb dX8_dropFirst_87 ?_
        obtain ⟨k20, hf⟩ := hf
        obtain ⟨k21, hf⟩ := hf
        obtain ⟨h22, hf⟩ := hf
        refine gm_copyi hx hb (by rw [hml]; exact hl.1.symm) hown (hts _ kw_1061) (hts _ kw_534) (hts _ kw_533) (hts _ kw_19) hK hW hS k20 k21 h22 (Nat.le_of_ble_eq_true rfl) (Nat.le_of_ble_eq_true rfl) dX8_dropFirst_88 (fun H locs M23 eM23 hW hS => ?_)
        replace hf := hf M23 eM23
        refine lv_aload_n hx hb dX8_dropFirst_91 rfl (lv_at hl 0 rfl) ?_
        obtain ⟨b24, hb24, hf⟩ := hf
        refine gm_getR (C := RX8) (T := TX8) (N := 9) (j := 6) hx hb hts inT_8 hown hK hW k4 (by decide) rfl (by decide) rfl (hts _ kw_187) rfl dX8_dropFirst_92 hb24 ?_
        refine lv_iload_n hx hb dX8_dropFirst_95 rfl (lv_at hl 1 rfl) ?_
        refine lv_aload_n hx hb dX8_dropFirst_96 rfl (lv_at hl 0 rfl) ?_
        obtain ⟨b25, hb25, hf⟩ := hf
        refine gm_getR (C := RX8) (T := TX8) (N := 9) (j := 6) hx hb hts inT_8 hown hK hW k4 (by decide) rfl (by decide) rfl (hts _ kw_187) rfl dX8_dropFirst_97 hb25 ?_
        refine lv_iconst (v := 0) hx hb dX8_dropFirst_100 (by decide +kernel) ?_
        refine lv_aload_n hx hb dX8_dropFirst_101 rfl (lv_at hl 0 rfl) ?_
        refine gm_getI (C := RX8) (T := TX8) (N := 9) (j := 3) hx hb hts inT_8 hown hK hW k4 (by decide) rfl (by decide) rfl (hts _ kw_179) rfl dX8_dropFirst_102 ?_
        refine lv_iload_n hx hb dX8_dropFirst_105 rfl (lv_at hl 1 rfl) ?_
        refine lv_isub hx hb dX8_dropFirst_106 ?_
        obtain ⟨k26, hf⟩ := hf
        obtain ⟨k27, hf⟩ := hf
        obtain ⟨h28, hf⟩ := hf
        refine gm_copyi hx hb (by rw [hml]; exact hl.1.symm) hown (hts _ kw_1061) (hts _ kw_534) (hts _ kw_533) (hts _ kw_19) hK hW hS k26 k27 h28 (Nat.le_of_ble_eq_true rfl) (Nat.le_of_ble_eq_true rfl) dX8_dropFirst_107 (fun H locs M29 eM29 hW hS => ?_)
        replace hf := hf M29 eM29
        refine lv_aload_n hx hb dX8_dropFirst_110 rfl (lv_at hl 0 rfl) ?_
        refine lv_dup hx hb dX8_dropFirst_111 rfl ?_
        refine gm_getI (C := RX8) (T := TX8) (N := 9) (j := 3) hx hb hts inT_8 hown hK hW k4 (by decide) rfl (by decide) rfl (hts _ kw_179) rfl dX8_dropFirst_112 ?_
        refine lv_iload_n hx hb dX8_dropFirst_115 rfl (lv_at hl 1 rfl) ?_
        refine lv_isub hx hb dX8_dropFirst_116 ?_
        refine gm_putI (C := RX8) (T := TX8) (N := 9) (j := 3) hx hb hts inT_8 tyX8 tyX8_ok nmX8 hown hK hW hS k4 (by decide) rfl (by decide) rfl (hts _ kw_179) rfl rfl rfl rfl dX8_dropFirst_117 (fun H locs M30 eM30 hW hS => ?_)
        replace hf := hf M30 eM30
        exact gm_vret hx hb hr hlocks hW hS hf dX8_dropFirst_120
      · replace hf := hf.2 c3
        refine lv_iload_n hx hb dX8_dropFirst_9 rfl (lv_at hl 2 rfl) ?_
        refine lv_aload_n hx hb dX8_dropFirst_10 rfl (lv_at hl 0 rfl) ?_
        obtain ⟨k31, hf⟩ := hf
        obtain ⟨b32, hb32, hf⟩ := hf
        refine gm_getR (C := RX8) (T := TX8) (N := 9) (j := 6) hx hb hts inT_8 hown hK hW k31 (by decide) rfl (by decide) rfl (hts _ kw_187) rfl dX8_dropFirst_11 hb32 ?_
        refine lv_iload_n hx hb dX8_dropFirst_14 rfl (lv_at hl 3 rfl) ?_
        obtain ⟨k33, hf⟩ := hf
        obtain ⟨h34, hf⟩ := hf
        refine gm_iald hx hb hK hW k33 h34 dX8_dropFirst_15 ?_
        refine lv_iadd hx hb dX8_dropFirst_16 ?_
        refine lv_topi (fun x35 ex35 => ?_)
        replace hf := hf x35 ex35
        refine lv_istore_n (lv' := [(2, .int x35), (0, .ref v0), (1, .int v1), (3, .int x2)]) hx hb dX8_dropFirst_17 rfl hl (by decide) rfl (fun ls hl => ?_)
        obtain ⟨x36, ex36⟩ : ∃ y : Int32, y = x2 + 1 := ⟨_, rfl⟩
        replace hf := hf x36 ex36
        refine lv_iinc (v := x36) (lv' := [(3, .int x36), (2, .int x35), (0, .ref v0), (1, .int v1)]) hx hb dX8_dropFirst_18 hl (k := 3) rfl (by rw [ex36]; rfl) (by decide) rfl (fun ls hl => ?_)
        refine lv_goto (tgt := 4) hx hb dX8_dropFirst_21 (by decide) ?_
        exact ih4 _ _ _ _ _ (lv_sub hl [2, 3, 1, 0] rfl) hW hS hf
  exact lp4 n4 _ _ _ _ _ (lv_sub hl [2, 3, 1, 0] rfl) hW hS hf
