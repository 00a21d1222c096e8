/-! by gen.py: what the methods do, and that they do it -/
abbrev rm_X11_isForProducers : Room := { frames := 3, cells := 0, slots := 0, locals := 105 }
def f_X11_isForProducers (Y : Ly) (v0 : Nat) (v1 : Int32) (M : Mm) (Kn : Int32 → Mm → Prop) : Prop :=
  yK Y v0 = 11 ∧ (f_X11_isWithin Y v1.toInt64 0 (((mI M v0 0) - 1).toInt64) M (fun r3 M2 => (bz r3 ∧ Kn r3 M2)))
set_option maxHeartbeats 4000000 in
set_option maxRecDepth 100000 in
theorem m_X11_isForProducers (l : Launch) (D : va_G) (cy : Cy) (tq sz : Nat) (Y : Ly) (v0 : Nat) (v1 : Int32) (M : Mm) (Kn : Int32 → Mm → Prop) : Met l yX11_isForProducers (Cond.code yX11_isForProducers cX11_isForProducers 2 (some .boolean) :: TT) rm_X11_isForProducers (PcG D cy tq [.ref v0, .int v1] sz Y M (f_X11_isForProducers Y v0 v1 M Kn)) (va_Qi Kn (BG D cy (Am Y sz) Y) (Am Y sz)) 0 0 (Am Y sz) := by
  refine Met.ofW (cc := cX11_isForProducers) (maxL := 2) (ret := (some .boolean)) (by decide) rfl ?_
  intro p e s m args below meth c s₁ B hml hv
  obtain ⟨hargs, hsz, hW, hK, hC, hf⟩ := hv
  subst hsz
  have hx := B.exec
  have hb := B.bytes
  have hr := B.returns
  have hts : ∀ w ∈ TT, w.before args s = true := fun w h => atoms_spec (ws := Cond.code yX11_isForProducers cX11_isForProducers 2 (some .boolean) :: TT) B.pre w (List.mem_cons_of_mem _ h)
  have hown : s.vm.findClass RX11 = some m.cls := findClass_of_methodNamed B.named
  have hlocks := B.notSynchronized
  replace hW := Wd_self (sz := s.heap.size) hW
  generalize hAe : Am Y s.heap.size = A at hW hC ⊢
  have hA : ∀ q : Nat, s.heap.size ≤ q → A q := fun q h => by rw [← hAe]; exact Or.inr h
  clear hAe
  have hS : va_S A s.heap s.heap [] := va_S.rf
  obtain ⟨ls, hE, hl⟩ := gm_entry m [.ref v0, .int v1] (n := 2) hargs (Nat.le_of_ble_eq_true rfl)
  rw [hE]
  have hl : lv_has ls 2 [(0, .ref v0), (1, .int v1)] := hl
  show W p l e rm_X11_isForProducers s m args below meth c s.heap [] 0 0 (MQ below (va_Qi Kn (BG D cy A Y) A) args s 0 0 A) (F0 m 0 ls [])
  unfold f_X11_isForProducers at hf
  refine lv_iload_n hx hb dX11_isForProducers_0 rfl (lv_at hl 1 rfl) ?_
  refine lv_i2l hx hb dX11_isForProducers_1 rfl ?_
  refine lv_lconst (v := 0) hx hb dX11_isForProducers_2 (by decide) ?_
  refine lv_aload_n hx hb dX11_isForProducers_3 rfl (lv_at hl 0 rfl) ?_
  obtain ⟨k1, hf⟩ := hf
  refine gm_getI (C := RX11) (T := TX11) (N := 13) (j := 0) hx hb hts inT_11 hown hK hW k1 (by decide) rfl (by decide) rfl (hts _ kw_294) rfl dX11_isForProducers_4 ?_
  refine lv_iconst (v := 1) hx hb dX11_isForProducers_7 (by decide +kernel) ?_
  refine lv_isub hx hb dX11_isForProducers_8 ?_
  refine lv_i2l hx hb dX11_isForProducers_9 rfl ?_
  refine gm_ci (va_runS (As := [.long v1.toInt64, .long 0, .long (((mI M v0 0) - 1).toInt64)]) (rest := []) ⟨hx, hb, hml, hown, hts⟩ (m_X11_isWithin l D cy tq _ Y _ _ _ _ _) (va_cwS 3 hts (good_S kw_460 kw_461 kw_1 kw_462) rfl rfl rfl (by decide +kernel) ⟨Nat.le_of_ble_eq_true rfl, Nat.le_of_ble_eq_true rfl⟩) (gm_preS hK hW hC hS hA hf) rfl rfl hl.1 rfl (lv_room (Nat.le_of_ble_eq_true rfl)) dX11_isForProducers_10 ⟨Nat.le_of_ble_eq_true rfl, Nat.le_of_ble_eq_true rfl⟩) hW hS hA (fun r3 M2 H locs hW hS hf => ?_)
  exact gm_zret hx hb hr hlocks hW hS hf.1 hf.2 dX11_isForProducers_13

abbrev rm_X11_isLog : Room := { frames := 3, cells := 0, slots := 0, locals := 105 }
def f_X11_isLog (Y : Ly) (v0 : Nat) (v1 : Int32) (M : Mm) (Kn : Int32 → Mm → Prop) : Prop :=
  yK Y v0 = 11 ∧ (f_X11_isWithin Y v1.toInt64 0 ((mI M v0 0).toInt64) M (fun r3 M2 => (bz r3 ∧ Kn r3 M2)))
set_option maxHeartbeats 4000000 in
set_option maxRecDepth 100000 in
theorem m_X11_isLog (l : Launch) (D : va_G) (cy : Cy) (tq sz : Nat) (Y : Ly) (v0 : Nat) (v1 : Int32) (M : Mm) (Kn : Int32 → Mm → Prop) : Met l yX11_isLog (Cond.code yX11_isLog cX11_isLog 2 (some .boolean) :: TT) rm_X11_isLog (PcG D cy tq [.ref v0, .int v1] sz Y M (f_X11_isLog Y v0 v1 M Kn)) (va_Qi Kn (BG D cy (Am Y sz) Y) (Am Y sz)) 0 0 (Am Y sz) := by
  refine Met.ofW (cc := cX11_isLog) (maxL := 2) (ret := (some .boolean)) (by decide) rfl ?_
  intro p e s m args below meth c s₁ B hml hv
  obtain ⟨hargs, hsz, hW, hK, hC, hf⟩ := hv
  subst hsz
  have hx := B.exec
  have hb := B.bytes
  have hr := B.returns
  have hts : ∀ w ∈ TT, w.before args s = true := fun w h => atoms_spec (ws := Cond.code yX11_isLog cX11_isLog 2 (some .boolean) :: TT) B.pre w (List.mem_cons_of_mem _ h)
  have hown : s.vm.findClass RX11 = some m.cls := findClass_of_methodNamed B.named
  have hlocks := B.notSynchronized
  replace hW := Wd_self (sz := s.heap.size) hW
  generalize hAe : Am Y s.heap.size = A at hW hC ⊢
  have hA : ∀ q : Nat, s.heap.size ≤ q → A q := fun q h => by rw [← hAe]; exact Or.inr h
  clear hAe
  have hS : va_S A s.heap s.heap [] := va_S.rf
  obtain ⟨ls, hE, hl⟩ := gm_entry m [.ref v0, .int v1] (n := 2) hargs (Nat.le_of_ble_eq_true rfl)
  rw [hE]
  have hl : lv_has ls 2 [(0, .ref v0), (1, .int v1)] := hl
  show W p l e rm_X11_isLog s m args below meth c s.heap [] 0 0 (MQ below (va_Qi Kn (BG D cy A Y) A) args s 0 0 A) (F0 m 0 ls [])
  unfold f_X11_isLog at hf
  refine lv_iload_n hx hb dX11_isLog_0 rfl (lv_at hl 1 rfl) ?_
  refine lv_i2l hx hb dX11_isLog_1 rfl ?_
  refine lv_lconst (v := 0) hx hb dX11_isLog_2 (by decide) ?_
  refine lv_aload_n hx hb dX11_isLog_3 rfl (lv_at hl 0 rfl) ?_
  obtain ⟨k1, hf⟩ := hf
  refine gm_getI (C := RX11) (T := TX11) (N := 13) (j := 0) hx hb hts inT_11 hown hK hW k1 (by decide) rfl (by decide) rfl (hts _ kw_294) rfl dX11_isLog_4 ?_
  refine lv_i2l hx hb dX11_isLog_7 rfl ?_
  refine gm_ci (va_runS (As := [.long v1.toInt64, .long 0, .long ((mI M v0 0).toInt64)]) (rest := []) ⟨hx, hb, hml, hown, hts⟩ (m_X11_isWithin l D cy tq _ Y _ _ _ _ _) (va_cwS 3 hts (good_S kw_460 kw_461 kw_1 kw_462) rfl rfl rfl (by decide +kernel) ⟨Nat.le_of_ble_eq_true rfl, Nat.le_of_ble_eq_true rfl⟩) (gm_preS hK hW hC hS hA hf) rfl rfl hl.1 rfl (lv_room (Nat.le_of_ble_eq_true rfl)) dX11_isLog_8 ⟨Nat.le_of_ble_eq_true rfl, Nat.le_of_ble_eq_true rfl⟩) hW hS hA (fun r3 M2 H locs hW hS hf => ?_)
  exact gm_zret hx hb hr hlocks hW hS hf.1 hf.2 dX11_isLog_11

abbrev rm_X11_isOfEight : Room := { frames := 3, cells := 0, slots := 0, locals := 105 }
def f_X11_isOfEight (Y : Ly) (v0 : Int32) (M : Mm) (Kn : Int32 → Mm → Prop) : Prop :=
  f_X11_isWithin Y v0.toInt64 0 7 M (fun r2 M1 => (bz r2 ∧ Kn r2 M1))
set_option maxHeartbeats 4000000 in
set_option maxRecDepth 100000 in
theorem m_X11_isOfEight (l : Launch) (D : va_G) (cy : Cy) (tq sz : Nat) (Y : Ly) (v0 : Int32) (M : Mm) (Kn : Int32 → Mm → Prop) : Met l yX11_isOfEight (Cond.code yX11_isOfEight cX11_isOfEight 1 (some .boolean) :: TT) rm_X11_isOfEight (PcG D cy tq [.int v0] sz Y M (f_X11_isOfEight Y v0 M Kn)) (va_Qi Kn (BG D cy (Am Y sz) Y) (Am Y sz)) 0 0 (Am Y sz) := by
  refine Met.ofW (cc := cX11_isOfEight) (maxL := 1) (ret := (some .boolean)) (by decide) rfl ?_
  intro p e s m args below meth c s₁ B hml hv
  obtain ⟨hargs, hsz, hW, hK, hC, hf⟩ := hv
  subst hsz
  have hx := B.exec
  have hb := B.bytes
  have hr := B.returns
  have hts : ∀ w ∈ TT, w.before args s = true := fun w h => atoms_spec (ws := Cond.code yX11_isOfEight cX11_isOfEight 1 (some .boolean) :: TT) B.pre w (List.mem_cons_of_mem _ h)
  have hown : s.vm.findClass RX11 = some m.cls := findClass_of_methodNamed B.named
  have hlocks := B.notSynchronized
  replace hW := Wd_self (sz := s.heap.size) hW
  generalize hAe : Am Y s.heap.size = A at hW hC ⊢
  have hA : ∀ q : Nat, s.heap.size ≤ q → A q := fun q h => by rw [← hAe]; exact Or.inr h
  clear hAe
  have hS : va_S A s.heap s.heap [] := va_S.rf
  obtain ⟨ls, hE, hl⟩ := gm_entry m [.int v0] (n := 1) hargs (Nat.le_of_ble_eq_true rfl)
  rw [hE]
  have hl : lv_has ls 1 [(0, .int v0)] := hl
  show W p l e rm_X11_isOfEight s m args below meth c s.heap [] 0 0 (MQ below (va_Qi Kn (BG D cy A Y) A) args s 0 0 A) (F0 m 0 ls [])
  unfold f_X11_isOfEight at hf
  refine lv_iload_n hx hb dX11_isOfEight_0 rfl (lv_at hl 0 rfl) ?_
  refine lv_i2l hx hb dX11_isOfEight_1 rfl ?_
  refine lv_lconst (v := 0) hx hb dX11_isOfEight_2 (by decide) ?_
  refine lv_ldc2 (v := 7) hx hb hown (hts _ kw_1144) dX11_isOfEight_3 ?_
  refine gm_ci (va_runS (As := [.long v0.toInt64, .long 0, .long 7]) (rest := []) ⟨hx, hb, hml, hown, hts⟩ (m_X11_isWithin l D cy tq _ Y _ _ _ _ _) (va_cwS 3 hts (good_S kw_460 kw_461 kw_1 kw_462) rfl rfl rfl (by decide +kernel) ⟨Nat.le_of_ble_eq_true rfl, Nat.le_of_ble_eq_true rfl⟩) (gm_preS hK hW hC hS hA hf) rfl rfl hl.1 rfl (lv_room (Nat.le_of_ble_eq_true rfl)) dX11_isOfEight_6 ⟨Nat.le_of_ble_eq_true rfl, Nat.le_of_ble_eq_true rfl⟩) hW hS hA (fun r2 M1 H locs hW hS hf => ?_)
  exact gm_zret hx hb hr hlocks hW hS hf.1 hf.2 dX11_isOfEight_9

abbrev rm_X11_time : Room := { frames := 2, cells := 0, slots := 0, locals := 80 }
def f_X11_time (Y : Ly) (v0 : Nat) (M : Mm) (Kn : Int32 → Mm → Prop) : Prop :=
  yK Y v0 = 11 ∧ (∃ b2 : Nat, mR M v0 12 = some b2 ∧ (yK Y b2 = 7 ∧ (Kn (mI M b2 0) M)))
set_option maxHeartbeats 4000000 in
set_option maxRecDepth 100000 in
theorem m_X11_time (l : Launch) (D : va_G) (cy : Cy) (tq sz : Nat) (Y : Ly) (v0 : Nat) (M : Mm) (Kn : Int32 → Mm → Prop) : Met l yX11_time (Cond.code yX11_time cX11_time 1 (some .int) :: TT) rm_X11_time (PcG D cy tq [.ref v0] sz Y M (f_X11_time Y v0 M Kn)) (va_Qi Kn (BG D cy (Am Y sz) Y) (Am Y sz)) 0 0 (Am Y sz) := by
  refine Met.ofW (cc := cX11_time) (maxL := 1) (ret := (some .int)) (by decide) rfl ?_
  intro p e s m args below meth c s₁ B hml hv
  obtain ⟨hargs, hsz, hW, hK, hC, hf⟩ := hv
  subst hsz
  have hx := B.exec
  have hb := B.bytes
  have hr := B.returns
  have hts : ∀ w ∈ TT, w.before args s = true := fun w h => atoms_spec (ws := Cond.code yX11_time cX11_time 1 (some .int) :: TT) B.pre w (List.mem_cons_of_mem _ h)
  have hown : s.vm.findClass RX11 = some m.cls := findClass_of_methodNamed B.named
  have hlocks := B.notSynchronized
  replace hW := Wd_self (sz := s.heap.size) hW
  generalize hAe : Am Y s.heap.size = A at hW hC ⊢
  have hA : ∀ q : Nat, s.heap.size ≤ q → A q := fun q h => by rw [← hAe]; exact Or.inr h
  clear hAe
  have hS : va_S A s.heap s.heap [] := va_S.rf
  obtain ⟨ls, hE, hl⟩ := gm_entry m [.ref v0] (n := 1) hargs (Nat.le_of_ble_eq_true rfl)
  rw [hE]
  have hl : lv_has ls 1 [(0, .ref v0)] := hl
  show W p l e rm_X11_time s m args below meth c s.heap [] 0 0 (MQ below (va_Qi Kn (BG D cy A Y) A) args s 0 0 A) (F0 m 0 ls [])
  unfold f_X11_time at hf
  refine lv_aload_n hx hb dX11_time_0 rfl (lv_at hl 0 rfl) ?_
  obtain ⟨k1, hf⟩ := hf
  obtain ⟨b2, hb2, hf⟩ := hf
  refine gm_getR (C := RX11) (T := TX11) (N := 13) (j := 12) hx hb hts inT_11 hown hK hW k1 (by decide) rfl (by decide) rfl (hts _ kw_306) rfl dX11_time_1 hb2 ?_
  obtain ⟨k3, hf⟩ := hf
  refine gm_getI (C := RX7) (T := TX7) (N := 9) (j := 0) hx hb hts inT_7 hown hK hW k3 (by decide) rfl (by decide) rfl (hts _ kw_272) rfl dX11_time_4 ?_
  exact gm_iret hx hb hr hlocks hW hS hf dX11_time_7

abbrev rm_X11_recover : Room := { frames := 8, cells := 0, slots := 0, locals := 223 }
def f_X11_recover (Y : Ly) (v0 : Nat) (M : Mm) (Kn : Int32 → Mm → Prop) : Prop :=
  yK Y v0 = 11 ∧ (∃ b2 : Nat, mR M v0 6 = some b2 ∧ (yK Y b2 = 3 ∧ (bz 0 ∧ (∀ M5 : Mm, M5 = sI M b2 (m1 (mI M b2) 3 0) → (∃ b6 : Nat, mR M5 v0 6 = some b6 ∧ (yK Y b6 = 3 ∧ (∀ M8 : Mm, M8 = sI M5 b6 (m1 (mI M5 b6) 2 (-1)) → (∃ b9 : Nat, mR M8 v0 6 = some b9 ∧ (yK Y b9 = 3 ∧ (∃ b11 : Nat, mR M8 b9 0 = some b11 ∧ (f_X1_signed Y b11 0 8 M8 (fun r13 M12 => (∀ M14 : Mm, M14 = sJ M12 v0 (m1 (mJ M12 v0) 9 r13) → (∀ M15 : Mm, M15 = sJ M14 v0 (m1 (mJ M14 v0) 8 (mJ M14 v0 9)) → (∃ b16 : Nat, mR M15 v0 10 = some b16 ∧ (yK Y b16 = 9 ∧ (f_X9_load Y b16 M15 (fun r18 M17 => (∃ b20 : Nat, mR M17 v0 12 = some b20 ∧ (yK Y b20 = 7 ∧ (f_X7_load Y b20 M17 (fun M21 => (Kn r18 M21)))))))))))))))))))))))
set_option maxHeartbeats 4000000 in
set_option maxRecDepth 100000 in
theorem m_X11_recover (l : Launch) (D : va_G) (cy : Cy) (tq sz : Nat) (Y : Ly) (v0 : Nat) (M : Mm) (Kn : Int32 → Mm → Prop) : Met l yX11_recover (Cond.code yX11_recover cX11_recover 2 (some .int) :: TT) rm_X11_recover (PcG D cy tq [.ref v0] sz Y M (f_X11_recover Y v0 M Kn)) (va_Qi Kn (BG D cy (Am Y sz) Y) (Am Y sz)) 0 0 (Am Y sz) := by
  refine Met.ofW (cc := cX11_recover) (maxL := 2) (ret := (some .int)) (by decide) rfl ?_
  intro p e s m args below meth c s₁ B hml hv
  obtain ⟨hargs, hsz, hW, hK, hC, hf⟩ := hv
  subst hsz
  have hx := B.exec
  have hb := B.bytes
  have hr := B.returns
  have hts : ∀ w ∈ TT, w.before args s = true := fun w h => atoms_spec (ws := Cond.code yX11_recover cX11_recover 2 (some .int) :: TT) B.pre w (List.mem_cons_of_mem _ h)
  have hown : s.vm.findClass RX11 = some m.cls := findClass_of_methodNamed B.named
  have hlocks := B.notSynchronized
  replace hW := Wd_self (sz := s.heap.size) hW
  generalize hAe : Am Y s.heap.size = A at hW hC ⊢
  have hA : ∀ q : Nat, s.heap.size ≤ q → A q := fun q h => by rw [← hAe]; exact Or.inr h
  clear hAe
  have hS : va_S A s.heap s.heap [] := va_S.rf
  obtain ⟨ls, hE, hl⟩ := gm_entry m [.ref v0] (n := 2) hargs (Nat.le_of_ble_eq_true rfl)
  rw [hE]
  have hl : lv_has ls 2 [(0, .ref v0)] := hl
  show W p l e rm_X11_recover s m args below meth c s.heap [] 0 0 (MQ below (va_Qi Kn (BG D cy A Y) A) args s 0 0 A) (F0 m 0 ls [])
  unfold f_X11_recover at hf
  refine lv_aload_n hx hb dX11_recover_0 rfl (lv_at hl 0 rfl) ?_
  obtain ⟨k1, hf⟩ := hf
  obtain ⟨b2, hb2, hf⟩ := hf
  refine gm_getR (C := RX11) (T := TX11) (N := 13) (j := 6) hx hb hts inT_11 hown hK hW k1 (by decide) rfl (by decide) rfl (hts _ kw_300) rfl dX11_recover_1 hb2 ?_
  refine lv_iconst (v := 0) hx hb dX11_recover_4 (by decide +kernel) ?_
  obtain ⟨k3, hf⟩ := hf
  obtain ⟨z4, hf⟩ := hf
  refine gm_putI (C := RX3) (T := TX3) (N := 4) (j := 3) hx hb hts inT_3 tyX3 tyX3_ok nmX3 hown hK hW hS k3 (by decide) rfl (by decide) rfl (hts _ kw_152) rfl rfl (bz_n z4) (bz_f z4) dX11_recover_5 (fun H locs M5 eM5 hW hS => ?_)
  replace hf := hf M5 eM5
  refine lv_aload_n hx hb dX11_recover_8 rfl (lv_at hl 0 rfl) ?_
  obtain ⟨b6, hb6, hf⟩ := hf
  refine gm_getR (C := RX11) (T := TX11) (N := 13) (j := 6) hx hb hts inT_11 hown hK hW k1 (by decide) rfl (by decide) rfl (hts _ kw_300) rfl dX11_recover_9 hb6 ?_
  refine lv_iconst (v := -1) hx hb dX11_recover_12 (by decide +kernel) ?_
  obtain ⟨k7, hf⟩ := hf
  refine gm_putI (C := RX3) (T := TX3) (N := 4) (j := 2) hx hb hts inT_3 tyX3 tyX3_ok nmX3 hown hK hW hS k7 (by decide) rfl (by decide) rfl (hts _ kw_150) rfl rfl rfl rfl dX11_recover_13 (fun H locs M8 eM8 hW hS => ?_)
  replace hf := hf M8 eM8
  refine lv_aload_n hx hb dX11_recover_16 rfl (lv_at hl 0 rfl) ?_
  refine lv_aload_n hx hb dX11_recover_17 rfl (lv_at hl 0 rfl) ?_
  obtain ⟨b9, hb9, hf⟩ := hf
  refine gm_getR (C := RX11) (T := TX11) (N := 13) (j := 6) hx hb hts inT_11 hown hK hW k1 (by decide) rfl (by decide) rfl (hts _ kw_300) rfl dX11_recover_18 hb9 ?_
  obtain ⟨k10, hf⟩ := hf
  obtain ⟨b11, hb11, hf⟩ := hf
  refine gm_getR (C := RX3) (T := TX3) (N := 4) (j := 0) hx hb hts inT_3 hown hK hW k10 (by decide) rfl (by decide) rfl (hts _ kw_145) rfl dX11_recover_21 hb11 ?_
  refine lv_iconst (v := 0) hx hb dX11_recover_24 (by decide +kernel) ?_
  refine lv_bipush (v := 8) hx hb dX11_recover_25 (by decide +kernel) ?_
  refine gm_cl (va_runS (As := [.ref b11, .int 0, .int 8]) (rest := [.ref v0]) ⟨hx, hb, hml, hown, hts⟩ (m_X1_signed l D cy tq _ Y _ _ _ _ _) (va_cwS 3 hts (good_S kw_328 kw_329 kw_17 kw_330) rfl rfl rfl (by decide +kernel) ⟨Nat.le_of_ble_eq_true rfl, Nat.le_of_ble_eq_true rfl⟩) (gm_preS hK hW hC hS hA hf) rfl rfl hl.1 rfl (lv_room (Nat.le_of_ble_eq_true rfl)) dX11_recover_27 ⟨Nat.le_of_ble_eq_true rfl, Nat.le_of_ble_eq_true rfl⟩) hW hS hA (fun r13 M12 H locs hW hS hf => ?_)
  refine gm_putJ (C := RX11) (T := TX11) (N := 13) (j := 9) hx hb hts inT_11 tyX11 tyX11_ok nmX11 hown hK hW hS k1 (by decide) rfl (by decide) rfl (hts _ kw_303) rfl rfl rfl rfl dX11_recover_30 (fun H locs M14 eM14 hW hS => ?_)
  replace hf := hf M14 eM14
  refine lv_aload_n hx hb dX11_recover_33 rfl (lv_at hl 0 rfl) ?_
  refine lv_aload_n hx hb dX11_recover_34 rfl (lv_at hl 0 rfl) ?_
  refine gm_getJ (C := RX11) (T := TX11) (N := 13) (j := 9) hx hb hts inT_11 hown hK hW k1 (by decide) rfl (by decide) rfl (hts _ kw_303) rfl dX11_recover_35 ?_
  refine gm_putJ (C := RX11) (T := TX11) (N := 13) (j := 8) hx hb hts inT_11 tyX11 tyX11_ok nmX11 hown hK hW hS k1 (by decide) rfl (by decide) rfl (hts _ kw_302) rfl rfl rfl rfl dX11_recover_38 (fun H locs M15 eM15 hW hS => ?_)
  replace hf := hf M15 eM15
  refine lv_aload_n hx hb dX11_recover_41 rfl (lv_at hl 0 rfl) ?_
  obtain ⟨b16, hb16, hf⟩ := hf
  refine gm_getR (C := RX11) (T := TX11) (N := 13) (j := 10) hx hb hts inT_11 hown hK hW k1 (by decide) rfl (by decide) rfl (hts _ kw_304) rfl dX11_recover_42 hb16 ?_
  obtain ⟨k19, hf⟩ := hf
  refine gm_ci (va_runV (As := []) (rest := []) ⟨hx, hb, hml, hown, hts⟩ (m_X9_load l D cy tq _ Y _ _ _) (cwV 0 hts (good_V kw_334 kw_335 kw_336 kw_8 kw_337) rfl rfl rfl (by decide +kernel) ⟨Nat.le_of_ble_eq_true rfl, Nat.le_of_ble_eq_true rfl⟩) (gm_preV hK hW hC hS hA k19 (by decide) (q := (RX9, TX9, 7)) rfl rfl hf) rfl rfl hl.1 rfl (lv_room (Nat.le_of_ble_eq_true rfl)) dX11_recover_45 ⟨Nat.le_of_ble_eq_true rfl, Nat.le_of_ble_eq_true rfl⟩) hW hS hA (fun r18 M17 H locs hW hS hf => ?_)
  refine lv_istore_n (lv' := [(1, .int r18), (0, .ref v0)]) hx hb dX11_recover_48 rfl hl (by decide) rfl (fun ls hl => ?_)
  refine lv_aload_n hx hb dX11_recover_49 rfl (lv_at hl 1 rfl) ?_
  obtain ⟨b20, hb20, hf⟩ := hf
  refine gm_getR (C := RX11) (T := TX11) (N := 13) (j := 12) hx hb hts inT_11 hown hK hW k1 (by decide) rfl (by decide) rfl (hts _ kw_306) rfl dX11_recover_50 hb20 ?_
  obtain ⟨k22, hf⟩ := hf
  refine gm_cv (va_runV (As := []) (rest := []) ⟨hx, hb, hml, hown, hts⟩ (m_X7_load l D cy tq _ Y _ _ _) (cwV 0 hts (good_V kw_363 kw_364 kw_365 kw_11 kw_366) rfl rfl rfl (by decide +kernel) ⟨Nat.le_of_ble_eq_true rfl, Nat.le_of_ble_eq_true rfl⟩) (gm_preV hK hW hC hS hA k22 (by decide) (q := (RX7, TX7, 9)) rfl rfl hf) rfl rfl hl.1 rfl (lv_room (Nat.le_of_ble_eq_true rfl)) dX11_recover_53 ⟨Nat.le_of_ble_eq_true rfl, Nat.le_of_ble_eq_true rfl⟩) hW hS hA (fun M21 H locs hW hS hf => ?_)
  refine lv_iload_n hx hb dX11_recover_56 rfl (lv_at hl 0 rfl) ?_
  exact gm_iret hx hb hr hlocks hW hS hf dX11_recover_57

abbrev rm_X11_isDown : Room := { frames := 2, cells := 0, slots := 0, locals := 80 }
def f_X11_isDown (Y : Ly) (v0 : Nat) (M : Mm) (Kn : Int32 → Mm → Prop) : Prop :=
  yK Y v0 = 11 ∧ (∃ b2 : Nat, mR M v0 6 = some b2 ∧ (yK Y b2 = 3 ∧ (bz (mI M b2 3) ∧ Kn (mI M b2 3) M)))
set_option maxHeartbeats 4000000 in
set_option maxRecDepth 100000 in
theorem m_X11_isDown (l : Launch) (D : va_G) (cy : Cy) (tq sz : Nat) (Y : Ly) (v0 : Nat) (M : Mm) (Kn : Int32 → Mm → Prop) : Met l yX11_isDown (Cond.code yX11_isDown cX11_isDown 1 (some .boolean) :: TT) rm_X11_isDown (PcG D cy tq [.ref v0] sz Y M (f_X11_isDown Y v0 M Kn)) (va_Qi Kn (BG D cy (Am Y sz) Y) (Am Y sz)) 0 0 (Am Y sz) := by
  refine Met.ofW (cc := cX11_isDown) (maxL := 1) (ret := (some .boolean)) (by decide) rfl ?_
  intro p e s m args below meth c s₁ B hml hv
  obtain ⟨hargs, hsz, hW, hK, hC, hf⟩ := hv
  subst hsz
  have hx := B.exec
  have hb := B.bytes
  have hr := B.returns
  have hts : ∀ w ∈ TT, w.before args s = true := fun w h => atoms_spec (ws := Cond.code yX11_isDown cX11_isDown 1 (some .boolean) :: TT) B.pre w (List.mem_cons_of_mem _ h)
  have hown : s.vm.findClass RX11 = some m.cls := findClass_of_methodNamed B.named
  have hlocks := B.notSynchronized
  replace hW := Wd_self (sz := s.heap.size) hW
  generalize hAe : Am Y s.heap.size = A at hW hC ⊢
  have hA : ∀ q : Nat, s.heap.size ≤ q → A q := fun q h => by rw [← hAe]; exact Or.inr h
  clear hAe
  have hS : va_S A s.heap s.heap [] := va_S.rf
  obtain ⟨ls, hE, hl⟩ := gm_entry m [.ref v0] (n := 1) hargs (Nat.le_of_ble_eq_true rfl)
  rw [hE]
  have hl : lv_has ls 1 [(0, .ref v0)] := hl
  show W p l e rm_X11_isDown s m args below meth c s.heap [] 0 0 (MQ below (va_Qi Kn (BG D cy A Y) A) args s 0 0 A) (F0 m 0 ls [])
  unfold f_X11_isDown at hf
  refine lv_aload_n hx hb dX11_isDown_0 rfl (lv_at hl 0 rfl) ?_
  obtain ⟨k1, hf⟩ := hf
  obtain ⟨b2, hb2, hf⟩ := hf
  refine gm_getR (C := RX11) (T := TX11) (N := 13) (j := 6) hx hb hts inT_11 hown hK hW k1 (by decide) rfl (by decide) rfl (hts _ kw_300) rfl dX11_isDown_1 hb2 ?_
  obtain ⟨k3, hf⟩ := hf
  refine gm_getI (C := RX3) (T := TX3) (N := 4) (j := 3) hx hb hts inT_3 hown hK hW k3 (by decide) rfl (by decide) rfl (hts _ kw_152) rfl dX11_isDown_4 ?_
  exact gm_zret hx hb hr hlocks hW hS hf.1 hf.2 dX11_isDown_7

abbrev rm_X11_writes : Room := { frames := 2, cells := 0, slots := 0, locals := 80 }
def f_X11_writes (Y : Ly) (v0 : Nat) (M : Mm) (Kn : Int32 → Mm → Prop) : Prop :=
  yK Y v0 = 11 ∧ (∃ b2 : Nat, mR M v0 6 = some b2 ∧ (yK Y b2 = 3 ∧ (Kn (mI M b2 1) M)))
set_option maxHeartbeats 4000000 in
set_option maxRecDepth 100000 in
theorem m_X11_writes (l : Launch) (D : va_G) (cy : Cy) (tq sz : Nat) (Y : Ly) (v0 : Nat) (M : Mm) (Kn : Int32 → Mm → Prop) : Met l yX11_writes (Cond.code yX11_writes cX11_writes 1 (some .int) :: TT) rm_X11_writes (PcG D cy tq [.ref v0] sz Y M (f_X11_writes Y v0 M Kn)) (va_Qi Kn (BG D cy (Am Y sz) Y) (Am Y sz)) 0 0 (Am Y sz) := by
  refine Met.ofW (cc := cX11_writes) (maxL := 1) (ret := (some .int)) (by decide) rfl ?_
  intro p e s m args below meth c s₁ B hml hv
  obtain ⟨hargs, hsz, hW, hK, hC, hf⟩ := hv
  subst hsz
  have hx := B.exec
  have hb := B.bytes
  have hr := B.returns
  have hts : ∀ w ∈ TT, w.before args s = true := fun w h => atoms_spec (ws := Cond.code yX11_writes cX11_writes 1 (some .int) :: TT) B.pre w (List.mem_cons_of_mem _ h)
  have hown : s.vm.findClass RX11 = some m.cls := findClass_of_methodNamed B.named
  have hlocks := B.notSynchronized
  replace hW := Wd_self (sz := s.heap.size) hW
  generalize hAe : Am Y s.heap.size = A at hW hC ⊢
  have hA : ∀ q : Nat, s.heap.size ≤ q → A q := fun q h => by rw [← hAe]; exact Or.inr h
  clear hAe
  have hS : va_S A s.heap s.heap [] := va_S.rf
  obtain ⟨ls, hE, hl⟩ := gm_entry m [.ref v0] (n := 1) hargs (Nat.le_of_ble_eq_true rfl)
  rw [hE]
  have hl : lv_has ls 1 [(0, .ref v0)] := hl
  show W p l e rm_X11_writes s m args below meth c s.heap [] 0 0 (MQ below (va_Qi Kn (BG D cy A Y) A) args s 0 0 A) (F0 m 0 ls [])
  unfold f_X11_writes at hf
  refine lv_aload_n hx hb dX11_writes_0 rfl (lv_at hl 0 rfl) ?_
  obtain ⟨k1, hf⟩ := hf
  obtain ⟨b2, hb2, hf⟩ := hf
  refine gm_getR (C := RX11) (T := TX11) (N := 13) (j := 6) hx hb hts inT_11 hown hK hW k1 (by decide) rfl (by decide) rfl (hts _ kw_300) rfl dX11_writes_1 hb2 ?_
  obtain ⟨k3, hf⟩ := hf
  refine gm_getI (C := RX3) (T := TX3) (N := 4) (j := 1) hx hb hts inT_3 hown hK hW k3 (by decide) rfl (by decide) rfl (hts _ kw_148) rfl dX11_writes_4 ?_
  exact gm_iret hx hb hr hlocks hW hS hf dX11_writes_7
