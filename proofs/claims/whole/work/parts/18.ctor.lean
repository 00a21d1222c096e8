/-! by gen.py: what the methods do, and that they do it -/
abbrev rm_X10_init : Room := { frames := 2, cells := 0, slots := 0, locals := 80 }
def f_X10_init (Y : Ly) (v0 : Nat) (M : Mm) (Kn : Ly → Mm → Prop) : Prop :=
  Kn Y M
set_option maxHeartbeats 4000000 in
set_option maxRecDepth 100000 in
theorem m_X10_init (l : Launch) (D : va_G) (cy : Cy) (tq sz : Nat) (Y : Ly) (v0 : Nat) (M : Mm) (Kn : Ly → Mm → Prop) : Met l yX10_init (Cond.code yX10_init cX10_init 1 none :: TT) rm_X10_init (PcG D cy tq [.ref v0] sz Y M (f_X10_init Y v0 M Kn)) (QA D cy (Am Y sz) Kn) 0 0 (Am Y sz) := by
  refine Met.ofW (cc := cX10_init) (maxL := 1) (ret := none) (by decide) rfl ?_
  intro p e s m args below meth c s₁ B hml hv
  obtain ⟨hargs, hsz, hW, hK, hC, hf⟩ := hv
  subst hsz
  have hx := B.exec
  have hb := B.bytes
  have hr := B.returns
  have hts : ∀ w ∈ TT, w.before args s = true := fun w h => atoms_spec (ws := Cond.code yX10_init cX10_init 1 none :: TT) B.pre w (List.mem_cons_of_mem _ h)
  have hown : s.vm.findClass RX10 = some m.cls := findClass_of_methodNamed B.named
  have hlocks := B.notSynchronized
  have hin : meth.name = "<init>" := (name_of_methodNamed B.named B.method).1
  replace hW := Wd_self (sz := s.heap.size) hW
  generalize hAe : Am Y s.heap.size = A at hW hC ⊢
  have hA : ∀ q : Nat, s.heap.size ≤ q → A q := fun q h => by rw [← hAe]; exact Or.inr h
  clear hAe
  have hS : va_S A s.heap s.heap [] := va_S.rf
  obtain ⟨ls, hE, hl⟩ := gm_entry m [.ref v0] (n := 1) hargs (Nat.le_of_ble_eq_true rfl)
  rw [hE]
  have hl : lv_has ls 1 [(0, .ref v0)] := hl
  show W p l e rm_X10_init s m args below meth c s.heap [] 0 0 (MQ below (QA D cy A Kn) args s 0 0 A) (F0 m 0 ls [])
  unfold f_X10_init at hf
  refine lv_aload_n hx hb dX10_init_0 rfl (lv_at hl 0 rfl) ?_
  refine W.objInit hx hb hown (hts _ kw_65) (hts _ kw_36) (hts _ kw_37) rfl (by rw [hml]; exact hl.1) rfl dX10_init_1 (Nat.le_of_ble_eq_true rfl) (Nat.le_of_ble_eq_true rfl) ?_
  refine W.eq (g2 := F0 m 4 ls []) rfl ?_
  refine W.widen (k := 0) (n := 0) (by omega) (by omega) ?_
  exact gm_vretA hx hb hr hlocks hW hS hf dX10_init_4

abbrev rm_X3_init : Room := { frames := 2, cells := 1, slots := 262144, locals := 80 }
def f_X3_init (Y : Ly) (v0 : Nat) (v1 : Int32) (M : Mm) (Kn : Ly → Mm → Prop) : Prop :=
  yK Y v0 = 3 ∧ (∀ M2 : Mm, M2 = sI M v0 (m1 (mI M v0) 2 (-1)) → (¬ (v1 * 1024) < 0 ∧ ((v1 * 1024).toNatClampNeg ≤ 262144 ∧ (∀ q5 : Nat, yK Y q5 = 0 → ∀ Y6 : Ly, Y6 = yNew Y q5 100 ((v1 * 1024).toNatClampNeg) → ∀ M7 : Mm, M7 = mZ M2 q5 → (yK Y6 v0 = 3 ∧ (∀ M9 : Mm, M9 = sR M7 v0 (m1 (mR M7 v0) 0 (some q5)) → (Kn Y6 M9)))))))
set_option maxHeartbeats 4000000 in
set_option maxRecDepth 100000 in
theorem m_X3_init (l : Launch) (D : va_G) (cy : Cy) (tq sz : Nat) (Y : Ly) (v0 : Nat) (v1 : Int32) (M : Mm) (Kn : Ly → Mm → Prop) : Met l yX3_init (Cond.code yX3_init cX3_init 2 none :: TT) rm_X3_init (PcG D cy tq [.ref v0, .int v1] sz Y M (f_X3_init Y v0 v1 M Kn)) (QA D cy (Am Y sz) Kn) 1 262144 (Am Y sz) := by
  refine Met.ofW (cc := cX3_init) (maxL := 2) (ret := none) (by decide) rfl ?_
  intro p e s m args below meth c s₁ B hml hv
  obtain ⟨hargs, hsz, hW, hK, hC, hf⟩ := hv
  subst hsz
  have hx := B.exec
  have hb := B.bytes
  have hr := B.returns
  have hts : ∀ w ∈ TT, w.before args s = true := fun w h => atoms_spec (ws := Cond.code yX3_init cX3_init 2 none :: TT) B.pre w (List.mem_cons_of_mem _ h)
  have hown : s.vm.findClass RX3 = some m.cls := findClass_of_methodNamed B.named
  have hlocks := B.notSynchronized
  have hin : meth.name = "<init>" := (name_of_methodNamed B.named B.method).1
  replace hW := Wd_self (sz := s.heap.size) hW
  generalize hAe : Am Y s.heap.size = A at hW hC ⊢
  have hA : ∀ q : Nat, s.heap.size ≤ q → A q := fun q h => by rw [← hAe]; exact Or.inr h
  clear hAe
  have hS : va_S A s.heap s.heap [] := va_S.rf
  obtain ⟨ls, hE, hl⟩ := gm_entry m [.ref v0, .int v1] (n := 2) hargs (Nat.le_of_ble_eq_true rfl)
  rw [hE]
  have hl : lv_has ls 2 [(0, .ref v0), (1, .int v1)] := hl
  show W p l e rm_X3_init s m args below meth c s.heap [] 0 0 (MQ below (QA D cy A Kn) args s 1 262144 A) (F0 m 0 ls [])
  unfold f_X3_init at hf
  refine lv_aload_n hx hb dX3_init_0 rfl (lv_at hl 0 rfl) ?_
  refine W.objInit hx hb hown (hts _ kw_141) (hts _ kw_36) (hts _ kw_37) rfl (by rw [hml]; exact hl.1) rfl dX3_init_1 (Nat.le_of_ble_eq_true rfl) (Nat.le_of_ble_eq_true rfl) ?_
  refine W.eq (g2 := F0 m 4 ls []) rfl ?_
  refine lv_aload_n hx hb dX3_init_4 rfl (lv_at hl 0 rfl) ?_
  refine lv_iconst (v := -1) hx hb dX3_init_5 (by decide +kernel) ?_
  obtain ⟨k1, hf⟩ := hf
  refine gm_putI (C := RX3) (T := TX3) (N := 4) (j := 2) hx hb hts inT_3 tyX3 tyX3_ok nmX3 hown hK hW hS k1 (by decide) rfl (by decide) rfl (hts _ kw_149) rfl rfl rfl rfl dX3_init_6 (fun H locs M2 eM2 hW hS => ?_)
  replace hf := hf M2 eM2
  refine lv_aload_n hx hb dX3_init_9 rfl (lv_at hl 0 rfl) ?_
  refine lv_iload_n hx hb dX3_init_10 rfl (lv_at hl 1 rfl) ?_
  refine lv_sipush (v := 1024) hx hb dX3_init_11 (by decide +kernel) ?_
  refine lv_imul hx hb dX3_init_14 ?_
  obtain ⟨h3, h4, hf⟩ := hf
  refine gm_newb hx hb (hts _ kw_55) hK hW hS hA (n := _) 262144 h3 rfl h4 (by decide) (by show _ ≤ 1; omega) (by show _ ≤ 262144; omega) dX3_init_15 (fun q5 H Y6 M7 h0q5 eY6 eM7 hW hS => ?_)
  replace hf := hf q5 h0q5 Y6 eY6 M7 eM7
  obtain ⟨k8, hf⟩ := hf
  refine gm_putFR (C := RX3) (T := TX3) (N := 4) (j := 0) hx hb hts inT_3 tyX3 tyX3_ok nmX3 hown hK hW hS k8 (by decide) rfl (by decide) rfl (hts _ kw_142) rfl rfl hin rfl rfl rfl dX3_init_17 (fun H locs M9 eM9 hW hS => ?_)
  replace hf := hf M9 eM9
  refine W.widen (k := 1) (n := 262144) (by omega) (by omega) ?_
  exact gm_vretA hx hb hr hlocks hW hS hf dX3_init_20

abbrev rm_X4_init : Room := { frames := 2, cells := 1, slots := 16000, locals := 80 }
def f_X4_init (Y : Ly) (v0 : Nat) (M : Mm) (Kn : Ly → Mm → Prop) : Prop :=
  ∀ q1 : Nat, yK Y q1 = 0 → ∀ Y2 : Ly, Y2 = yNew Y q1 100 16000 → ∀ M3 : Mm, M3 = mZ M q1 → (yK Y2 v0 = 4 ∧ (∀ M5 : Mm, M5 = sR M3 v0 (m1 (mR M3 v0) 0 (some q1)) → (Kn Y2 M5)))
set_option maxHeartbeats 4000000 in
set_option maxRecDepth 100000 in
theorem m_X4_init (l : Launch) (D : va_G) (cy : Cy) (tq sz : Nat) (Y : Ly) (v0 : Nat) (M : Mm) (Kn : Ly → Mm → Prop) : Met l yX4_init (Cond.code yX4_init cX4_init 1 none :: TT) rm_X4_init (PcG D cy tq [.ref v0] sz Y M (f_X4_init Y v0 M Kn)) (QA D cy (Am Y sz) Kn) 1 16000 (Am Y sz) := by
  refine Met.ofW (cc := cX4_init) (maxL := 1) (ret := none) (by decide) rfl ?_
  intro p e s m args below meth c s₁ B hml hv
  obtain ⟨hargs, hsz, hW, hK, hC, hf⟩ := hv
  subst hsz
  have hx := B.exec
  have hb := B.bytes
  have hr := B.returns
  have hts : ∀ w ∈ TT, w.before args s = true := fun w h => atoms_spec (ws := Cond.code yX4_init cX4_init 1 none :: TT) B.pre w (List.mem_cons_of_mem _ h)
  have hown : s.vm.findClass RX4 = some m.cls := findClass_of_methodNamed B.named
  have hlocks := B.notSynchronized
  have hin : meth.name = "<init>" := (name_of_methodNamed B.named B.method).1
  replace hW := Wd_self (sz := s.heap.size) hW
  generalize hAe : Am Y s.heap.size = A at hW hC ⊢
  have hA : ∀ q : Nat, s.heap.size ≤ q → A q := fun q h => by rw [← hAe]; exact Or.inr h
  clear hAe
  have hS : va_S A s.heap s.heap [] := va_S.rf
  obtain ⟨ls, hE, hl⟩ := gm_entry m [.ref v0] (n := 1) hargs (Nat.le_of_ble_eq_true rfl)
  rw [hE]
  have hl : lv_has ls 1 [(0, .ref v0)] := hl
  show W p l e rm_X4_init s m args below meth c s.heap [] 0 0 (MQ below (QA D cy A Kn) args s 1 16000 A) (F0 m 0 ls [])
  unfold f_X4_init at hf
  refine lv_aload_n hx hb dX4_init_0 rfl (lv_at hl 0 rfl) ?_
  refine W.objInit hx hb hown (hts _ kw_42) (hts _ kw_36) (hts _ kw_37) rfl (by rw [hml]; exact hl.1) rfl dX4_init_1 (Nat.le_of_ble_eq_true rfl) (Nat.le_of_ble_eq_true rfl) ?_
  refine W.eq (g2 := F0 m 4 ls []) rfl ?_
  refine lv_aload_n hx hb dX4_init_4 rfl (lv_at hl 0 rfl) ?_
  refine lv_sipush (v := 16000) hx hb dX4_init_5 (by decide +kernel) ?_
  refine gm_newb hx hb (hts _ kw_55) hK hW hS hA (n := 16000) 16000 (by decide +kernel) (by decide +kernel) (Nat.le_refl _) (by decide) (by show _ ≤ 1; omega) (by show _ ≤ 16000; omega) dX4_init_8 (fun q1 H Y2 M3 h0q1 eY2 eM3 hW hS => ?_)
  replace hf := hf q1 h0q1 Y2 eY2 M3 eM3
  obtain ⟨k4, hf⟩ := hf
  refine gm_putFR (C := RX4) (T := TX4) (N := 4) (j := 0) hx hb hts inT_4 tyX4 tyX4_ok nmX4 hown hK hW hS k4 (by decide) rfl (by decide) rfl (hts _ kw_43) rfl rfl hin rfl rfl rfl dX4_init_10 (fun H locs M5 eM5 hW hS => ?_)
  replace hf := hf M5 eM5
  refine W.widen (k := 1) (n := 16000) (by omega) (by omega) ?_
  exact gm_vretA hx hb hr hlocks hW hS hf dX4_init_13

abbrev rm_X5_init : Room := { frames := 3, cells := 1, slots := 8, locals := 100 }
def f_X5_init (Y : Ly) (v0 : Nat) (M : Mm) (Kn : Ly → Mm → Prop) : Prop :=
  ∀ q1 : Nat, yK Y q1 = 0 → ∀ Y2 : Ly, Y2 = yNew Y q1 10 0 → ∀ M3 : Mm, M3 = mZ M q1 → (f_X10_init Y2 q1 M3 (fun Y4 M5 => (yK Y4 v0 = 5 ∧ (∀ M7 : Mm, M7 = sR M5 v0 (m1 (mR M5 v0) 2 (some q1)) → (Kn Y4 M7)))))
set_option maxHeartbeats 4000000 in
set_option maxRecDepth 100000 in
theorem m_X5_init (l : Launch) (D : va_G) (cy : Cy) (tq sz : Nat) (Y : Ly) (v0 : Nat) (M : Mm) (Kn : Ly → Mm → Prop) : Met l yX5_init (Cond.code yX5_init cX5_init 1 none :: TT) rm_X5_init (PcG D cy tq [.ref v0] sz Y M (f_X5_init Y v0 M Kn)) (QA D cy (Am Y sz) Kn) 1 8 (Am Y sz) := by
  refine Met.ofW (cc := cX5_init) (maxL := 1) (ret := none) (by decide) rfl ?_
  intro p e s m args below meth c s₁ B hml hv
  obtain ⟨hargs, hsz, hW, hK, hC, hf⟩ := hv
  subst hsz
  have hx := B.exec
  have hb := B.bytes
  have hr := B.returns
  have hts : ∀ w ∈ TT, w.before args s = true := fun w h => atoms_spec (ws := Cond.code yX5_init cX5_init 1 none :: TT) B.pre w (List.mem_cons_of_mem _ h)
  have hown : s.vm.findClass RX5 = some m.cls := findClass_of_methodNamed B.named
  have hlocks := B.notSynchronized
  have hin : meth.name = "<init>" := (name_of_methodNamed B.named B.method).1
  replace hW := Wd_self (sz := s.heap.size) hW
  generalize hAe : Am Y s.heap.size = A at hW hC ⊢
  have hA : ∀ q : Nat, s.heap.size ≤ q → A q := fun q h => by rw [← hAe]; exact Or.inr h
  clear hAe
  have hS : va_S A s.heap s.heap [] := va_S.rf
  obtain ⟨ls, hE, hl⟩ := gm_entry m [.ref v0] (n := 1) hargs (Nat.le_of_ble_eq_true rfl)
  rw [hE]
  have hl : lv_has ls 1 [(0, .ref v0)] := hl
  show W p l e rm_X5_init s m args below meth c s.heap [] 0 0 (MQ below (QA D cy A Kn) args s 1 8 A) (F0 m 0 ls [])
  unfold f_X5_init at hf
  refine lv_aload_n hx hb dX5_init_0 rfl (lv_at hl 0 rfl) ?_
  refine W.objInit hx hb hown (hts _ kw_60) (hts _ kw_36) (hts _ kw_37) rfl (by rw [hml]; exact hl.1) rfl dX5_init_1 (Nat.le_of_ble_eq_true rfl) (Nat.le_of_ble_eq_true rfl) ?_
  refine W.eq (g2 := F0 m 4 ls []) rfl ?_
  refine lv_aload_n hx hb dX5_init_4 rfl (lv_at hl 0 rfl) ?_
  refine gm_new (ci := 10) hx hb hts inT_10 tyX10 tyX10_ok hown (hts _ kw_61) (hts _ kw_62) (hts _ kw_4) hK hW hS hA rfl (by decide) rfl def_10 (by show _ ≤ 1; omega) (by show _ ≤ 8; omega) dX5_init_5 (fun q1 H Y2 M3 h0q1 eY2 eM3 hW hS => ?_)
  replace hf := hf q1 h0q1 Y2 eY2 M3 eM3
  refine lv_dup hx hb dX5_init_8 rfl ?_
  refine gm_ca (va_runIN (As := []) (rest := [.ref q1, .ref v0]) ⟨hx, hb, hml, hown, hts⟩ (m_X10_init l D cy tq _ Y2 _ _ _) ⟨va_cnB 0 hts (good_C kw_64) rfl rfl rfl hC.2.2.2.2.2.2.1 (hts _ kw_4) (by decide +kernel) ⟨Nat.le_of_ble_eq_true rfl, Nat.le_of_ble_eq_true rfl⟩, rfl, hts _ kw_63⟩ (gm_preS hK hW hC hS hA hf) rfl rfl hl.1 rfl (lv_room (Nat.le_of_ble_eq_true rfl)) dX5_init_9 ⟨by show _ ≤ 1; omega, by show _ ≤ 8; omega⟩) hW hS hA (fun Y4 M5 H locs hW hS hf => ?_)
  obtain ⟨k6, hf⟩ := hf
  refine gm_putFR (C := RX5) (T := TX5) (N := 3) (j := 2) hx hb hts inT_5 tyX5 tyX5_ok nmX5 hown hK hW hS k6 (by decide) rfl (by decide) rfl (hts _ kw_104) rfl rfl hin rfl rfl rfl dX5_init_12 (fun H locs M7 eM7 hW hS => ?_)
  replace hf := hf M7 eM7
  refine W.widen (k := 1) (n := 8) (by omega) (by omega) ?_
  exact gm_vretA hx hb hr hlocks hW hS hf dX5_init_15

abbrev rm_X6_init : Room := { frames := 3, cells := 3, slots := 33314, locals := 100 }
def f_X6_init (Y : Ly) (v0 : Nat) (M : Mm) (Kn : Ly → Mm → Prop) : Prop :=
  ∀ q1 : Nat, yK Y q1 = 0 → ∀ Y2 : Ly, Y2 = yNew Y q1 100 32768 → ∀ M3 : Mm, M3 = mZ M q1 → (yK Y2 v0 = 6 ∧ (∀ M5 : Mm, M5 = sR M3 v0 (m1 (mR M3 v0) 0 (some q1)) → (∀ q6 : Nat, yK Y2 q6 = 0 → ∀ Y7 : Ly, Y7 = yNew Y2 q6 101 538 → ∀ M8 : Mm, M8 = mZ M5 q6 → (yK Y7 v0 = 6 ∧ (∀ M10 : Mm, M10 = sR M8 v0 (m1 (mR M8 v0) 3 (some q6)) → (∀ q11 : Nat, yK Y7 q11 = 0 → ∀ Y12 : Ly, Y12 = yNew Y7 q11 10 0 → ∀ M13 : Mm, M13 = mZ M10 q11 → (f_X10_init Y12 q11 M13 (fun Y14 M15 => (yK Y14 v0 = 6 ∧ (∀ M17 : Mm, M17 = sR M15 v0 (m1 (mR M15 v0) 5 (some q11)) → (Kn Y14 M17)))))))))))
set_option maxHeartbeats 4000000 in
set_option maxRecDepth 100000 in
theorem m_X6_init (l : Launch) (D : va_G) (cy : Cy) (tq sz : Nat) (Y : Ly) (v0 : Nat) (M : Mm) (Kn : Ly → Mm → Prop) : Met l yX6_init (Cond.code yX6_init cX6_init 1 none :: TT) rm_X6_init (PcG D cy tq [.ref v0] sz Y M (f_X6_init Y v0 M Kn)) (QA D cy (Am Y sz) Kn) 3 33314 (Am Y sz) := by
  refine Met.ofW (cc := cX6_init) (maxL := 1) (ret := none) (by decide) rfl ?_
  intro p e s m args below meth c s₁ B hml hv
  obtain ⟨hargs, hsz, hW, hK, hC, hf⟩ := hv
  subst hsz
  have hx := B.exec
  have hb := B.bytes
  have hr := B.returns
  have hts : ∀ w ∈ TT, w.before args s = true := fun w h => atoms_spec (ws := Cond.code yX6_init cX6_init 1 none :: TT) B.pre w (List.mem_cons_of_mem _ h)
  have hown : s.vm.findClass RX6 = some m.cls := findClass_of_methodNamed B.named
  have hlocks := B.notSynchronized
  have hin : meth.name = "<init>" := (name_of_methodNamed B.named B.method).1
  replace hW := Wd_self (sz := s.heap.size) hW
  generalize hAe : Am Y s.heap.size = A at hW hC ⊢
  have hA : ∀ q : Nat, s.heap.size ≤ q → A q := fun q h => by rw [← hAe]; exact Or.inr h
  clear hAe
  have hS : va_S A s.heap s.heap [] := va_S.rf
  obtain ⟨ls, hE, hl⟩ := gm_entry m [.ref v0] (n := 1) hargs (Nat.le_of_ble_eq_true rfl)
  rw [hE]
  have hl : lv_has ls 1 [(0, .ref v0)] := hl
  show W p l e rm_X6_init s m args below meth c s.heap [] 0 0 (MQ below (QA D cy A Kn) args s 3 33314 A) (F0 m 0 ls [])
  unfold f_X6_init at hf
  refine lv_aload_n hx hb dX6_init_0 rfl (lv_at hl 0 rfl) ?_
  refine W.objInit hx hb hown (hts _ kw_112) (hts _ kw_36) (hts _ kw_37) rfl (by rw [hml]; exact hl.1) rfl dX6_init_1 (Nat.le_of_ble_eq_true rfl) (Nat.le_of_ble_eq_true rfl) ?_
  refine W.eq (g2 := F0 m 4 ls []) rfl ?_
  refine lv_aload_n hx hb dX6_init_4 rfl (lv_at hl 0 rfl) ?_
  refine lv_ldc (v := 32768) hx hb hown (hts _ kw_113) dX6_init_5 ?_
  refine gm_newb hx hb (hts _ kw_55) hK hW hS hA (n := 32768) 32768 (by decide +kernel) (by decide +kernel) (Nat.le_refl _) (by decide) (by show _ ≤ 3; omega) (by show _ ≤ 33314; omega) dX6_init_7 (fun q1 H Y2 M3 h0q1 eY2 eM3 hW hS => ?_)
  replace hf := hf q1 h0q1 Y2 eY2 M3 eM3
  obtain ⟨k4, hf⟩ := hf
  refine gm_putFR (C := RX6) (T := TX6) (N := 6) (j := 0) hx hb hts inT_6 tyX6 tyX6_ok nmX6 hown hK hW hS k4 (by decide) rfl (by decide) rfl (hts _ kw_115) rfl rfl hin rfl rfl rfl dX6_init_9 (fun H locs M5 eM5 hW hS => ?_)
  replace hf := hf M5 eM5
  refine lv_aload_n hx hb dX6_init_12 rfl (lv_at hl 0 rfl) ?_
  refine lv_sipush (v := 538) hx hb dX6_init_13 (by decide +kernel) ?_
  refine gm_newi hx hb (hts _ kw_129) hK hW hS hA (n := 538) 538 (by decide +kernel) (by decide +kernel) (Nat.le_refl _) (by decide) (by show _ ≤ 3; omega) (by show _ ≤ 33314; omega) dX6_init_16 (fun q6 H Y7 M8 h0q6 eY7 eM8 hW hS => ?_)
  replace hf := hf q6 h0q6 Y7 eY7 M8 eM8
  obtain ⟨k9, hf⟩ := hf
  refine gm_putFR (C := RX6) (T := TX6) (N := 6) (j := 3) hx hb hts inT_6 tyX6 tyX6_ok nmX6 hown hK hW hS k9 (by decide) rfl (by decide) rfl (hts _ kw_120) rfl rfl hin rfl rfl rfl dX6_init_18 (fun H locs M10 eM10 hW hS => ?_)
  replace hf := hf M10 eM10
  refine lv_aload_n hx hb dX6_init_21 rfl (lv_at hl 0 rfl) ?_
  refine gm_new (ci := 10) hx hb hts inT_10 tyX10 tyX10_ok hown (hts _ kw_114) (hts _ kw_62) (hts _ kw_4) hK hW hS hA rfl (by decide) rfl def_10 (by show _ ≤ 3; omega) (by show _ ≤ 33314; omega) dX6_init_22 (fun q11 H Y12 M13 h0q11 eY12 eM13 hW hS => ?_)
  replace hf := hf q11 h0q11 Y12 eY12 M13 eM13
  refine lv_dup hx hb dX6_init_25 rfl ?_
  refine gm_ca (va_runIN (As := []) (rest := [.ref q11, .ref v0]) ⟨hx, hb, hml, hown, hts⟩ (m_X10_init l D cy tq _ Y12 _ _ _) ⟨va_cnB 0 hts (good_C kw_64) rfl rfl rfl hC.2.2.2.2.2.2.2.2.1 (hts _ kw_4) (by decide +kernel) ⟨Nat.le_of_ble_eq_true rfl, Nat.le_of_ble_eq_true rfl⟩, rfl, hts _ kw_63⟩ (gm_preS hK hW hC hS hA hf) rfl rfl hl.1 rfl (lv_room (Nat.le_of_ble_eq_true rfl)) dX6_init_26 ⟨by show _ ≤ 3; omega, by show _ ≤ 33314; omega⟩) hW hS hA (fun Y14 M15 H locs hW hS hf => ?_)
  obtain ⟨k16, hf⟩ := hf
  refine gm_putFR (C := RX6) (T := TX6) (N := 6) (j := 5) hx hb hts inT_6 tyX6 tyX6_ok nmX6 hown hK hW hS k16 (by decide) rfl (by decide) rfl (hts _ kw_122) rfl rfl hin rfl rfl rfl dX6_init_29 (fun H locs M17 eM17 hW hS => ?_)
  replace hf := hf M17 eM17
  refine W.widen (k := 3) (n := 33314) (by omega) (by omega) ?_
  exact gm_vretA hx hb hr hlocks hW hS hf dX6_init_32

abbrev rm_X8_init : Room := { frames := 2, cells := 4, slots := 4477, locals := 80 }
def f_X8_init (Y : Ly) (v0 : Nat) (v1 : Int32) (v2 : Int32) (M : Mm) (Kn : Ly → Mm → Prop) : Prop :=
  ∀ q1 : Nat, yK Y q1 = 0 → ∀ Y2 : Ly, Y2 = yNew Y q1 101 60 → ∀ M3 : Mm, M3 = mZ M q1 → (yK Y2 v0 = 8 ∧ (∀ M5 : Mm, M5 = sR M3 v0 (m1 (mR M3 v0) 4 (some q1)) → (∀ q6 : Nat, yK Y2 q6 = 0 → ∀ Y7 : Ly, Y7 = yNew Y2 q6 101 60 → ∀ M8 : Mm, M8 = mZ M5 q6 → (yK Y7 v0 = 8 ∧ (∀ M10 : Mm, M10 = sR M8 v0 (m1 (mR M8 v0) 5 (some q6)) → (∀ q11 : Nat, yK Y7 q11 = 0 → ∀ Y12 : Ly, Y12 = yNew Y7 q11 101 60 → ∀ M13 : Mm, M13 = mZ M10 q11 → (yK Y12 v0 = 8 ∧ (∀ M15 : Mm, M15 = sR M13 v0 (m1 (mR M13 v0) 6 (some q11)) → (∀ M16 : Mm, M16 = sI M15 v0 (m1 (mI M15 v0) 0 v1) → (¬ v2 < 0 ∧ (v2.toNatClampNeg ≤ 4297 ∧ (∀ q19 : Nat, yK Y12 q19 = 0 → ∀ Y20 : Ly, Y20 = yNew Y12 q19 101 v2.toNatClampNeg → ∀ M21 : Mm, M21 = mZ M16 q19 → (yK Y20 v0 = 8 ∧ (∀ M23 : Mm, M23 = sR M21 v0 (m1 (mR M21 v0) 8 (some q19)) → (Kn Y20 M23)))))))))))))))
set_option maxHeartbeats 4000000 in
set_option maxRecDepth 100000 in
theorem m_X8_init (l : Launch) (D : va_G) (cy : Cy) (tq sz : Nat) (Y : Ly) (v0 : Nat) (v1 : Int32) (v2 : Int32) (M : Mm) (Kn : Ly → Mm → Prop) : Met l yX8_init (Cond.code yX8_init cX8_init 3 none :: TT) rm_X8_init (PcG D cy tq [.ref v0, .int v1, .int v2] sz Y M (f_X8_init Y v0 v1 v2 M Kn)) (QA D cy (Am Y sz) Kn) 4 4477 (Am Y sz) := by
  refine Met.ofW (cc := cX8_init) (maxL := 3) (ret := none) (by decide) rfl ?_
  intro p e s m args below meth c s₁ B hml hv
  obtain ⟨hargs, hsz, hW, hK, hC, hf⟩ := hv
  subst hsz
  have hx := B.exec
  have hb := B.bytes
  have hr := B.returns
  have hts : ∀ w ∈ TT, w.before args s = true := fun w h => atoms_spec (ws := Cond.code yX8_init cX8_init 3 none :: TT) B.pre w (List.mem_cons_of_mem _ h)
  have hown : s.vm.findClass RX8 = some m.cls := findClass_of_methodNamed B.named
  have hlocks := B.notSynchronized
  have hin : meth.name = "<init>" := (name_of_methodNamed B.named B.method).1
  replace hW := Wd_self (sz := s.heap.size) hW
  generalize hAe : Am Y s.heap.size = A at hW hC ⊢
  have hA : ∀ q : Nat, s.heap.size ≤ q → A q := fun q h => by rw [← hAe]; exact Or.inr h
  clear hAe
  have hS : va_S A s.heap s.heap [] := va_S.rf
  obtain ⟨ls, hE, hl⟩ := gm_entry m [.ref v0, .int v1, .int v2] (n := 3) hargs (Nat.le_of_ble_eq_true rfl)
  rw [hE]
  have hl : lv_has ls 3 [(0, .ref v0), (1, .int v1), (2, .int v2)] := hl
  show W p l e rm_X8_init s m args below meth c s.heap [] 0 0 (MQ below (QA D cy A Kn) args s 4 4477 A) (F0 m 0 ls [])
  unfold f_X8_init at hf
  refine lv_aload_n hx hb dX8_init_0 rfl (lv_at hl 0 rfl) ?_
  refine W.objInit hx hb hown (hts _ kw_169) (hts _ kw_36) (hts _ kw_37) rfl (by rw [hml]; exact hl.1) rfl dX8_init_1 (Nat.le_of_ble_eq_true rfl) (Nat.le_of_ble_eq_true rfl) ?_
  refine W.eq (g2 := F0 m 4 ls []) rfl ?_
  refine lv_aload_n hx hb dX8_init_4 rfl (lv_at hl 0 rfl) ?_
  refine lv_bipush (v := 60) hx hb dX8_init_5 (by decide +kernel) ?_
  refine gm_newi hx hb (hts _ kw_129) hK hW hS hA (n := 60) 60 (by decide +kernel) (by decide +kernel) (Nat.le_refl _) (by decide) (by show _ ≤ 4; omega) (by show _ ≤ 4477; omega) dX8_init_7 (fun q1 H Y2 M3 h0q1 eY2 eM3 hW hS => ?_)
  replace hf := hf q1 h0q1 Y2 eY2 M3 eM3
  obtain ⟨k4, hf⟩ := hf
  refine gm_putFR (C := RX8) (T := TX8) (N := 9) (j := 4) hx hb hts inT_8 tyX8 tyX8_ok nmX8 hown hK hW hS k4 (by decide) rfl (by decide) rfl (hts _ kw_182) rfl rfl hin rfl rfl rfl dX8_init_9 (fun H locs M5 eM5 hW hS => ?_)
  replace hf := hf M5 eM5
  refine lv_aload_n hx hb dX8_init_12 rfl (lv_at hl 0 rfl) ?_
  refine lv_bipush (v := 60) hx hb dX8_init_13 (by decide +kernel) ?_
  refine gm_newi hx hb (hts _ kw_129) hK hW hS hA (n := 60) 60 (by decide +kernel) (by decide +kernel) (Nat.le_refl _) (by decide) (by show _ ≤ 4; omega) (by show _ ≤ 4477; omega) dX8_init_15 (fun q6 H Y7 M8 h0q6 eY7 eM8 hW hS => ?_)
  replace hf := hf q6 h0q6 Y7 eY7 M8 eM8
  obtain ⟨k9, hf⟩ := hf
  refine gm_putFR (C := RX8) (T := TX8) (N := 9) (j := 5) hx hb hts inT_8 tyX8 tyX8_ok nmX8 hown hK hW hS k9 (by decide) rfl (by decide) rfl (hts _ kw_185) rfl rfl hin rfl rfl rfl dX8_init_17 (fun H locs M10 eM10 hW hS => ?_)
  replace hf := hf M10 eM10
  refine lv_aload_n hx hb dX8_init_20 rfl (lv_at hl 0 rfl) ?_
  refine lv_bipush (v := 60) hx hb dX8_init_21 (by decide +kernel) ?_
  refine gm_newi hx hb (hts _ kw_129) hK hW hS hA (n := 60) 60 (by decide +kernel) (by decide +kernel) (Nat.le_refl _) (by decide) (by show _ ≤ 4; omega) (by show _ ≤ 4477; omega) dX8_init_23 (fun q11 H Y12 M13 h0q11 eY12 eM13 hW hS => ?_)
  replace hf := hf q11 h0q11 Y12 eY12 M13 eM13
  obtain ⟨k14, hf⟩ := hf
  refine gm_putFR (C := RX8) (T := TX8) (N := 9) (j := 6) hx hb hts inT_8 tyX8 tyX8_ok nmX8 hown hK hW hS k14 (by decide) rfl (by decide) rfl (hts _ kw_187) rfl rfl hin rfl rfl rfl dX8_init_25 (fun H locs M15 eM15 hW hS => ?_)
  replace hf := hf M15 eM15
  refine lv_aload_n hx hb dX8_init_28 rfl (lv_at hl 0 rfl) ?_
  refine lv_iload_n hx hb dX8_init_29 rfl (lv_at hl 1 rfl) ?_
  refine gm_putFI (C := RX8) (T := TX8) (N := 9) (j := 0) hx hb hts inT_8 tyX8 tyX8_ok nmX8 hown hK hW hS k14 (by decide) rfl (by decide) rfl (hts _ kw_170) rfl rfl hin rfl rfl rfl dX8_init_30 (fun H locs M16 eM16 hW hS => ?_)
  replace hf := hf M16 eM16
  refine lv_aload_n hx hb dX8_init_33 rfl (lv_at hl 0 rfl) ?_
  refine lv_iload_n hx hb dX8_init_34 rfl (lv_at hl 2 rfl) ?_
  obtain ⟨h17, h18, hf⟩ := hf
  refine gm_newi hx hb (hts _ kw_129) hK hW hS hA (n := _) 4297 h17 rfl h18 (by decide) (by show _ ≤ 4; omega) (by show _ ≤ 4477; omega) dX8_init_35 (fun q19 H Y20 M21 h0q19 eY20 eM21 hW hS => ?_)
  replace hf := hf q19 h0q19 Y20 eY20 M21 eM21
  obtain ⟨k22, hf⟩ := hf
  refine gm_putFR (C := RX8) (T := TX8) (N := 9) (j := 8) hx hb hts inT_8 tyX8 tyX8_ok nmX8 hown hK hW hS k22 (by decide) rfl (by decide) rfl (hts _ kw_195) rfl rfl hin rfl rfl rfl dX8_init_37 (fun H locs M23 eM23 hW hS => ?_)
  replace hf := hf M23 eM23
  refine W.widen (k := 4) (n := 4477) (by omega) (by omega) ?_
  exact gm_vretA hx hb hr hlocks hW hS hf dX8_init_40

abbrev rm_X9_init : Room := { frames := 3, cells := 54, slots := 45633, locals := 102 }
def L_X9_init_47 (Y18 : Ly) (v0 : Nat) (v1 : Nat) (v2 : Int32) (Kn : Ly → Mm → Prop) (x22 : Int32) (Y23 : Ly) (M24 : Mm) (again47 : Int32 → Ly → Mm → Prop) : Prop :=
  (v2 < x22 → (yK Y23 v0 = 9 ∧ (∀ M27 : Mm, M27 = sI M24 v0 (m1 (mI M24 v0) 3 (v2 + 2)) → (yK Y23 v1 = 3 ∧ (f_X3_blocks Y23 v1 M27 (fun r29 M28 => (¬ r29 < 0 ∧ (r29.toNatClampNeg ≤ 256 ∧ (∀ q33 : Nat, yK Y23 q33 = 0 → ∀ Y34 : Ly, Y34 = yNew Y23 q33 100 r29.toNatClampNeg → ∀ M35 : Mm, M35 = mZ M28 q33 → (yK Y34 v0 = 9 ∧ (∀ M37 : Mm, M37 = sR M35 v0 (m1 (mR M35 v0) 4 (some q33)) → (Kn Y34 M37)))))))))))) ∧ (¬ (v2 < x22) → (yK Y23 v0 = 9 ∧ (∃ b39 : Nat, mR M24 v0 1 = some b39 ∧ (∀ q40 : Nat, yK Y23 q40 = 0 → ∀ Y41 : Ly, Y41 = yNew Y23 q40 8 0 → ∀ M42 : Mm, M42 = mZ M24 q40 → (yK Y41 v1 = 3 ∧ (∃ b44 : Nat, mR M42 v1 0 = some b44 ∧ (yK Y41 b44 = 100 ∧ (f_X8_init Y41 q40 (1 + x22) ((nI (yN Y41 b44)) / 61) M42 (fun Y47 M48 => (yK Y47 b39 = 104 ∧ (yK Y47 q40 = 8 ∧ (vp_in x22 (yN Y47 b39) ∧ (∀ M52 : Mm, M52 = sR M48 b39 (m1 (mR M48 b39) x22.toNatClampNeg (some q40)) → (∀ x53 : Int32, x53 = x22 + 1 → (again47 x53 Y47 M52)))))))))))))))
def f_X9_init (Y : Ly) (v0 : Nat) (v1 : Nat) (v2 : Int32) (v3 : Int32) (M : Mm) (Kn : Ly → Mm → Prop) : Prop :=
  ∀ q1 : Nat, yK Y q1 = 0 → ∀ Y2 : Ly, Y2 = yNew Y q1 100 500 → ∀ M3 : Mm, M3 = mZ M q1 → (yK Y2 v0 = 9 ∧ (∀ M5 : Mm, M5 = sR M3 v0 (m1 (mR M3 v0) 5 (some q1)) → (∀ q6 : Nat, yK Y2 q6 = 0 → ∀ Y7 : Ly, Y7 = yNew Y2 q6 10 0 → ∀ M8 : Mm, M8 = mZ M5 q6 → (f_X10_init Y7 q6 M8 (fun Y9 M10 => (yK Y9 v0 = 9 ∧ (∀ M12 : Mm, M12 = sR M10 v0 (m1 (mR M10 v0) 6 (some q6)) → (∀ M13 : Mm, M13 = sR M12 v0 (m1 (mR M12 v0) 0 (some v1)) → (∀ M14 : Mm, M14 = sI M13 v0 (m1 (mI M13 v0) 2 v3) → (¬ (v2 + 1) < 0 ∧ ((v2 + 1).toNatClampNeg ≤ 9 ∧ (∀ q17 : Nat, yK Y9 q17 = 0 → ∀ Y18 : Ly, Y18 = yNew Y9 q17 104 ((v2 + 1).toNatClampNeg) → ∀ M19 : Mm, M19 = mZ M14 q17 → (yK Y18 v0 = 9 ∧ (∀ M21 : Mm, M21 = sR M19 v0 (m1 (mR M19 v0) 1 (some q17)) → (∃ n, n ≤ 10 ∧ LOOP3 (L_X9_init_47 Y18 v0 v1 v2 Kn) n 0 Y18 M21)))))))))))))))
set_option maxHeartbeats 4000000 in
set_option maxRecDepth 100000 in
theorem m_X9_init (l : Launch) (D : va_G) (cy : Cy) (tq sz : Nat) (Y : Ly) (v0 : Nat) (v1 : Nat) (v2 : Int32) (v3 : Int32) (M : Mm) (Kn : Ly → Mm → Prop) : Met l yX9_init (Cond.code yX9_init cX9_init 5 none :: TT) rm_X9_init (PcG D cy tq [.ref v0, .ref v1, .int v2, .int v3] sz Y M (f_X9_init Y v0 v1 v2 v3 M Kn)) (QA D cy (Am Y sz) Kn) 54 45633 (Am Y sz) := by
  refine Met.ofW (cc := cX9_init) (maxL := 5) (ret := none) (by decide) rfl ?_
  intro p e s m args below meth c s₁ B hml hv
  obtain ⟨hargs, hsz, hW, hK, hC, hf⟩ := hv
  subst hsz
  have hx := B.exec
  have hb := B.bytes
  have hr := B.returns
  have hts : ∀ w ∈ TT, w.before args s = true := fun w h => atoms_spec (ws := Cond.code yX9_init cX9_init 5 none :: TT) B.pre w (List.mem_cons_of_mem _ h)
  have hown : s.vm.findClass RX9 = some m.cls := findClass_of_methodNamed B.named
  have hlocks := B.notSynchronized
  have hin : meth.name = "<init>" := (name_of_methodNamed B.named B.method).1
  replace hW := Wd_self (sz := s.heap.size) hW
  generalize hAe : Am Y s.heap.size = A at hW hC ⊢
  have hA : ∀ q : Nat, s.heap.size ≤ q → A q := fun q h => by rw [← hAe]; exact Or.inr h
  clear hAe
  have hS : va_S A s.heap s.heap [] := va_S.rf
  obtain ⟨ls, hE, hl⟩ := gm_entry m [.ref v0, .ref v1, .int v2, .int v3] (n := 5) hargs (Nat.le_of_ble_eq_true rfl)
  rw [hE]
  have hl : lv_has ls 5 [(0, .ref v0), (1, .ref v1), (2, .int v2), (3, .int v3)] := hl
  show W p l e rm_X9_init s m args below meth c s.heap [] 0 0 (MQ below (QA D cy A Kn) args s 54 45633 A) (F0 m 0 ls [])
  unfold f_X9_init at hf
  refine lv_aload_n hx hb dX9_init_0 rfl (lv_at hl 0 rfl) ?_
  refine W.objInit hx hb hown (hts _ kw_162) (hts _ kw_36) (hts _ kw_37) rfl (by rw [hml]; exact hl.1) rfl dX9_init_1 (Nat.le_of_ble_eq_true rfl) (Nat.le_of_ble_eq_true rfl) ?_
  refine W.eq (g2 := F0 m 4 ls []) rfl ?_
  refine lv_aload_n hx hb dX9_init_4 rfl (lv_at hl 0 rfl) ?_
  refine lv_sipush (v := 500) hx hb dX9_init_5 (by decide +kernel) ?_
  refine gm_newb hx hb (hts _ kw_55) hK hW hS hA (n := 500) 500 (by decide +kernel) (by decide +kernel) (Nat.le_refl _) (by decide) (by show _ ≤ 54; omega) (by show _ ≤ 45633; omega) dX9_init_8 (fun q1 H Y2 M3 h0q1 eY2 eM3 hW hS => ?_)
  replace hf := hf q1 h0q1 Y2 eY2 M3 eM3
  obtain ⟨k4, hf⟩ := hf
  refine gm_putFR (C := RX9) (T := TX9) (N := 7) (j := 5) hx hb hts inT_9 tyX9 tyX9_ok nmX9 hown hK hW hS k4 (by decide) rfl (by decide) rfl (hts _ kw_223) rfl rfl hin rfl rfl rfl dX9_init_10 (fun H locs M5 eM5 hW hS => ?_)
  replace hf := hf M5 eM5
  refine lv_aload_n hx hb dX9_init_13 rfl (lv_at hl 0 rfl) ?_
  refine gm_new (ci := 10) hx hb hts inT_10 tyX10 tyX10_ok hown (hts _ kw_163) (hts _ kw_62) (hts _ kw_4) hK hW hS hA rfl (by decide) rfl def_10 (by show _ ≤ 54; omega) (by show _ ≤ 45633; omega) dX9_init_14 (fun q6 H Y7 M8 h0q6 eY7 eM8 hW hS => ?_)
  replace hf := hf q6 h0q6 Y7 eY7 M8 eM8
  refine lv_dup hx hb dX9_init_17 rfl ?_
  refine gm_ca (va_runIN (As := []) (rest := [.ref q6, .ref v0]) ⟨hx, hb, hml, hown, hts⟩ (m_X10_init l D cy tq _ Y7 _ _ _) ⟨va_cnB 0 hts (good_C kw_64) rfl rfl rfl hC.2.2.2.2.2.2.2.2.2.1 (hts _ kw_4) (by decide +kernel) ⟨Nat.le_of_ble_eq_true rfl, Nat.le_of_ble_eq_true rfl⟩, rfl, hts _ kw_63⟩ (gm_preS hK hW hC hS hA hf) rfl rfl hl.1 rfl (lv_room (Nat.le_of_ble_eq_true rfl)) dX9_init_18 ⟨by show _ ≤ 54; omega, by show _ ≤ 45633; omega⟩) hW hS hA (fun Y9 M10 H locs hW hS hf => ?_)
  obtain ⟨k11, hf⟩ := hf
  refine gm_putFR (C := RX9) (T := TX9) (N := 7) (j := 6) hx hb hts inT_9 tyX9 tyX9_ok nmX9 hown hK hW hS k11 (by decide) rfl (by decide) rfl (hts _ kw_224) rfl rfl hin rfl rfl rfl dX9_init_21 (fun H locs M12 eM12 hW hS => ?_)
  replace hf := hf M12 eM12
  refine lv_aload_n hx hb dX9_init_24 rfl (lv_at hl 0 rfl) ?_
  refine lv_aload_n hx hb dX9_init_25 rfl (lv_at hl 1 rfl) ?_
  refine gm_putFR (C := RX9) (T := TX9) (N := 7) (j := 0) hx hb hts inT_9 tyX9 tyX9_ok nmX9 hown hK hW hS k11 (by decide) rfl (by decide) rfl (hts _ kw_213) rfl rfl hin rfl rfl rfl dX9_init_26 (fun H locs M13 eM13 hW hS => ?_)
  replace hf := hf M13 eM13
  refine lv_aload_n hx hb dX9_init_29 rfl (lv_at hl 0 rfl) ?_
  refine lv_iload_n hx hb dX9_init_30 rfl (lv_at hl 3 rfl) ?_
  refine gm_putFI (C := RX9) (T := TX9) (N := 7) (j := 2) hx hb hts inT_9 tyX9 tyX9_ok nmX9 hown hK hW hS k11 (by decide) rfl (by decide) rfl (hts _ kw_219) rfl rfl hin rfl rfl rfl dX9_init_31 (fun H locs M14 eM14 hW hS => ?_)
  replace hf := hf M14 eM14
  refine lv_aload_n hx hb dX9_init_34 rfl (lv_at hl 0 rfl) ?_
  refine lv_iload_n hx hb dX9_init_35 rfl (lv_at hl 2 rfl) ?_
  refine lv_iconst (v := 1) hx hb dX9_init_36 (by decide +kernel) ?_
  refine lv_iadd hx hb dX9_init_37 ?_
  obtain ⟨h15, h16, hf⟩ := hf
  refine gm_newr hx hb hown (hts _ kw_164) hC.2.2.2.2.2.2.2.2.2.2.2.2.2.2.2.2.2.2.2.2.2 hK hW hS hA (n := _) 9 h15 rfl h16 (by decide) (by show _ ≤ 54; omega) (by show _ ≤ 45633; omega) dX9_init_38 (fun q17 H Y18 M19 h0q17 eY18 eM19 hW hS => ?_)
  replace hf := hf q17 h0q17 Y18 eY18 M19 eM19
  obtain ⟨k20, hf⟩ := hf
  refine gm_putFR (C := RX9) (T := TX9) (N := 7) (j := 1) hx hb hts inT_9 tyX9 tyX9_ok nmX9 hown hK hW hS k20 (by decide) rfl (by decide) rfl (hts _ kw_216) rfl rfl hin rfl rfl rfl dX9_init_41 (fun H locs M21 eM21 hW hS => ?_)
  replace hf := hf M21 eM21
  refine lv_iconst (v := 0) hx hb dX9_init_44 (by decide +kernel) ?_
  refine lv_istore (lv' := [(4, .int 0), (0, .ref v0), (1, .ref v1), (2, .int v2), (3, .int v3)]) hx hb dX9_init_45 hl (by decide) rfl (fun ls hl => ?_)
  obtain ⟨n47, hn47, hf⟩ := hf
  have lp47 : ∀ (n47 : Nat) (x22 : Int32) (Y23 : Ly) (M24 : Mm) (H : Heap) (locs : List Loc) (ls : Array Slot), n47 ≤ 10 → lv_has ls 5 [(0, .ref v0), (1, .ref v1), (2, .int v2), (4, .int x22)] → Wd D cy A Y23 M24 H → va_S A s.heap H locs → LOOP3 (L_X9_init_47 Y18 v0 v1 v2 Kn) n47 x22 Y23 M24 → W p l e rm_X9_init s m args below meth c H locs (3 + (10 - n47) * 5) (517 + (10 - n47) * 4486) (MQ below (QA D cy A Kn) args s 54 45633 A) (F0 m 47 ls []) := by
    intro n47
    induction n47 with
    | zero => intro x22 Y23 M24 H locs ls hn47 hl hW hS hf; exact hf.elim
    | succ n47 ih47 =>
      intro x22 Y23 M24 H locs ls hn47 hl hW hS hf
      replace hf : L_X9_init_47 Y18 v0 v1 v2 Kn x22 Y23 M24 (LOOP3 (L_X9_init_47 Y18 v0 v1 v2 Kn) n47) := hf
      unfold L_X9_init_47 at hf
      refine lv_iload hx hb dX9_init_47 (lv_at hl 3 rfl) ?_
      refine lv_iload_n hx hb dX9_init_49 rfl (lv_at hl 2 rfl) ?_
      refine lv_icmp_gt (tgt := 85) hx hb dX9_init_50 (by decide) (fun c25 => ?_) (fun c25 => ?_)
      · replace hf := hf.1 c25
        refine lv_aload_n hx hb dX9_init_85 rfl (lv_at hl 0 rfl) ?_
        refine lv_iload_n hx hb dX9_init_86 rfl (lv_at hl 2 rfl) ?_
        refine lv_iconst (v := 2) hx hb dX9_init_87 (by decide +kernel) ?_
        refine lv_iadd hx hb dX9_init_88 ?_
        obtain ⟨k26, hf⟩ := hf
        refine gm_putFI (C := RX9) (T := TX9) (N := 7) (j := 3) hx hb hts inT_9 tyX9 tyX9_ok nmX9 hown hK hW hS k26 (by decide) rfl (by decide) rfl (hts _ kw_221) rfl rfl hin rfl rfl rfl dX9_init_89 (fun H locs M27 eM27 hW hS => ?_)
        replace hf := hf M27 eM27
        refine lv_aload_n hx hb dX9_init_92 rfl (lv_at hl 0 rfl) ?_
        refine lv_aload_n hx hb dX9_init_93 rfl (lv_at hl 1 rfl) ?_
        obtain ⟨k30, hf⟩ := hf
        refine gm_ci (va_runV (As := []) (rest := [.ref v0]) ⟨hx, hb, hml, hown, hts⟩ (m_X3_blocks l D cy tq _ Y23 _ _ _) (cwV 0 hts (good_V kw_209 kw_210 kw_211 kw_7 kw_212) rfl rfl rfl (by decide +kernel) ⟨Nat.le_of_ble_eq_true rfl, Nat.le_of_ble_eq_true rfl⟩) (gm_preV hK hW hC hS hA k30 (by decide) (q := (RX3, TX3, 4)) rfl rfl hf) rfl rfl hl.1 rfl (lv_room (Nat.le_of_ble_eq_true rfl)) dX9_init_94 ⟨by show _ ≤ 54; omega, by show _ ≤ 45633; omega⟩) hW hS hA (fun r29 M28 H locs hW hS hf => ?_)
        obtain ⟨h31, h32, hf⟩ := hf
        refine gm_newb hx hb (hts _ kw_55) hK hW hS hA (n := _) 256 h31 rfl h32 (by decide) (by show _ ≤ 54; omega) (by show _ ≤ 45633; omega) dX9_init_97 (fun q33 H Y34 M35 h0q33 eY34 eM35 hW hS => ?_)
        replace hf := hf q33 h0q33 Y34 eY34 M35 eM35
        obtain ⟨k36, hf⟩ := hf
        refine gm_putFR (C := RX9) (T := TX9) (N := 7) (j := 4) hx hb hts inT_9 tyX9 tyX9_ok nmX9 hown hK hW hS k36 (by decide) rfl (by decide) rfl (hts _ kw_222) rfl rfl hin rfl rfl rfl dX9_init_99 (fun H locs M37 eM37 hW hS => ?_)
        replace hf := hf M37 eM37
        refine W.widen (k := 54) (n := 45633) (by omega) (by omega) ?_
        exact gm_vretA hx hb hr hlocks hW hS hf dX9_init_102
      · replace hf := hf.2 c25
        refine lv_aload_n hx hb dX9_init_53 rfl (lv_at hl 0 rfl) ?_
        obtain ⟨k38, hf⟩ := hf
        obtain ⟨b39, hb39, hf⟩ := hf
        refine gm_getR (C := RX9) (T := TX9) (N := 7) (j := 1) hx hb hts inT_9 hown hK hW k38 (by decide) rfl (by decide) rfl (hts _ kw_216) rfl dX9_init_54 hb39 ?_
        refine lv_iload hx hb dX9_init_57 (lv_at hl 3 rfl) ?_
        refine gm_new (ci := 8) hx hb hts inT_8 tyX8 tyX8_ok hown (hts _ kw_164) (hts _ kw_165) (hts _ kw_9) hK hW hS hA rfl (by decide) rfl def_8 (by show _ ≤ 54; omega) (by show _ ≤ 45633; omega) dX9_init_59 (fun q40 H Y41 M42 h0q40 eY41 eM42 hW hS => ?_)
        replace hf := hf q40 h0q40 Y41 eY41 M42 eM42
        refine lv_dup hx hb dX9_init_62 rfl ?_
        refine lv_iconst (v := 1) hx hb dX9_init_63 (by decide +kernel) ?_
        refine lv_iload hx hb dX9_init_64 (lv_at hl 3 rfl) ?_
        refine lv_iadd hx hb dX9_init_66 ?_
        refine lv_aload_n hx hb dX9_init_67 rfl (lv_at hl 1 rfl) ?_
        obtain ⟨k43, hf⟩ := hf
        obtain ⟨b44, hb44, hf⟩ := hf
        refine gm_getR (C := RX3) (T := TX3) (N := 4) (j := 0) hx hb hts inT_3 hown hK hW k43 (by decide) rfl (by decide) rfl (hts _ kw_144) rfl dX9_init_68 hb44 ?_
        obtain ⟨k45, hf⟩ := hf
        refine gm_alen hx hb hK hW (by rw [k45]; decide) dX9_init_71 ?_
        refine lv_bipush (v := 61) hx hb dX9_init_72 (by decide +kernel) ?_
        refine lv_idiv hx hb dX9_init_74 (by decide) ?_
        refine gm_ca (va_runI (As := [.int (1 + x22), .int ((nI (yN Y41 b44)) / 61)]) (rest := [.ref q40, .int x22, .ref b39]) ⟨hx, hb, hml, hown, hts⟩ (m_X8_init l D cy tq _ Y41 _ _ _ _ _) (cwI 2 hts (good_C kw_168) rfl rfl rfl (hts _ kw_9) (hts _ kw_166) (hts _ kw_167) rfl (by decide +kernel) ⟨Nat.le_of_ble_eq_true rfl, Nat.le_of_ble_eq_true rfl⟩) (gm_preS hK hW hC hS hA hf) rfl rfl hl.1 rfl (lv_room (Nat.le_of_ble_eq_true rfl)) dX9_init_75 ⟨by show _ ≤ 54; omega, by show _ ≤ 45633; omega⟩) hW hS hA (fun Y47 M48 H locs hW hS hf => ?_)
        obtain ⟨k49, hf⟩ := hf
        obtain ⟨k50, hf⟩ := hf
        obtain ⟨h51, hf⟩ := hf
        refine gm_aast hx hb hK hW hS k49 k50 h51 dX9_init_78 (fun H locs M52 eM52 hW hS => ?_)
        replace hf := hf M52 eM52
        obtain ⟨x53, ex53⟩ : ∃ y : Int32, y = x22 + 1 := ⟨_, rfl⟩
        replace hf := hf x53 ex53
        refine lv_iinc (v := x53) (lv' := [(4, .int x53), (0, .ref v0), (1, .ref v1), (2, .int v2)]) hx hb dX9_init_79 hl (k := 3) rfl (by rw [ex53]; rfl) (by decide) rfl (fun ls hl => ?_)
        refine lv_goto (tgt := 47) hx hb dX9_init_82 (by decide) ?_
        refine W.widen (k := 3 + (10 - n47) * 5) (n := 517 + (10 - n47) * 4486) (by omega) (by omega) ?_
        exact ih47 _ _ _ _ _ _ (by omega) (lv_sub hl [1, 2, 3, 0] rfl) hW hS hf
  refine W.widen (k := 3 + (10 - n47) * 5) (n := 517 + (10 - n47) * 4486) (by omega) (by omega) ?_
  exact lp47 n47 _ _ _ _ _ _ hn47 (lv_sub hl [1, 2, 3, 0] rfl) hW hS hf

abbrev rm_X2_init : Room := { frames := 3, cells := 7, slots := 412130, locals := 100 }
def f_X2_init (Y : Ly) (v0 : Nat) (v1 : Nat) (M : Mm) (Kn : Ly → Mm → Prop) : Prop :=
  ∀ q1 : Nat, yK Y q1 = 0 → ∀ Y2 : Ly, Y2 = yNew Y q1 10 0 → ∀ M3 : Mm, M3 = mZ M q1 → (f_X10_init Y2 q1 M3 (fun Y4 M5 => (yK Y4 v0 = 2 ∧ (∀ M7 : Mm, M7 = sR M5 v0 (m1 (mR M5 v0) 2 (some q1)) → (∀ q8 : Nat, yK Y4 q8 = 0 → ∀ Y9 : Ly, Y9 = yNew Y4 q8 101 60 → ∀ M10 : Mm, M10 = mZ M7 q8 → (yK Y9 v0 = 2 ∧ (∀ M12 : Mm, M12 = sR M10 v0 (m1 (mR M10 v0) 10 (some q8)) → (∀ q13 : Nat, yK Y9 q13 = 0 → ∀ Y14 : Ly, Y14 = yNew Y9 q13 101 60 → ∀ M15 : Mm, M15 = mZ M12 q13 → (yK Y14 v0 = 2 ∧ (∀ M17 : Mm, M17 = sR M15 v0 (m1 (mR M15 v0) 11 (some q13)) → (∀ q18 : Nat, yK Y14 q18 = 0 → ∀ Y19 : Ly, Y19 = yNew Y14 q18 101 60 → ∀ M20 : Mm, M20 = mZ M17 q18 → (yK Y19 v0 = 2 ∧ (∀ M22 : Mm, M22 = sR M20 v0 (m1 (mR M20 v0) 12 (some q18)) → (∀ M23 : Mm, M23 = sR M22 v0 (m1 (mR M22 v0) 0 (some v1)) → (yK Y19 v1 = 9 ∧ (∃ b25 : Nat, mR M23 v1 0 = some b25 ∧ (yK Y19 b25 = 3 ∧ (∃ b27 : Nat, mR M23 b25 0 = some b27 ∧ (∀ M28 : Mm, M28 = sR M23 v0 (m1 (mR M23 v0) 1 (some b27)) → (∃ b29 : Nat, mR M28 v0 1 = some b29 ∧ (yK Y19 b29 = 100 ∧ (∀ x32 : Int32, x32 = (2 * ((nI (yN Y19 b29)) / 7)) + 1 → (¬ x32 < 0 ∧ (x32.toNatClampNeg ≤ 74899 ∧ (∀ q35 : Nat, yK Y19 q35 = 0 → ∀ Y36 : Ly, Y36 = yNew Y19 q35 101 x32.toNatClampNeg → ∀ M37 : Mm, M37 = mZ M28 q35 → (yK Y36 v0 = 2 ∧ (∀ M39 : Mm, M39 = sR M37 v0 (m1 (mR M37 v0) 3 (some q35)) → (¬ x32 < 0 ∧ (x32.toNatClampNeg ≤ 74899 ∧ (∀ q42 : Nat, yK Y36 q42 = 0 → ∀ Y43 : Ly, Y43 = yNew Y36 q42 101 x32.toNatClampNeg → ∀ M44 : Mm, M44 = mZ M39 q42 → (yK Y43 v0 = 2 ∧ (∀ M46 : Mm, M46 = sR M44 v0 (m1 (mR M44 v0) 4 (some q42)) → (∃ b47 : Nat, mR M46 v0 1 = some b47 ∧ (yK Y43 b47 = 100 ∧ (¬ (nI (yN Y43 b47)) < 0 ∧ ((nI (yN Y43 b47)).toNatClampNeg ≤ 262144 ∧ (∀ q51 : Nat, yK Y43 q51 = 0 → ∀ Y52 : Ly, Y52 = yNew Y43 q51 100 ((nI (yN Y43 b47)).toNatClampNeg) → ∀ M53 : Mm, M53 = mZ M46 q51 → (yK Y52 v0 = 2 ∧ (∀ M55 : Mm, M55 = sR M53 v0 (m1 (mR M53 v0) 6 (some q51)) → (Kn Y52 M55))))))))))))))))))))))))))))))))))))))))
set_option maxHeartbeats 4000000 in
set_option maxRecDepth 100000 in
theorem m_X2_init (l : Launch) (D : va_G) (cy : Cy) (tq sz : Nat) (Y : Ly) (v0 : Nat) (v1 : Nat) (M : Mm) (Kn : Ly → Mm → Prop) : Met l yX2_init (Cond.code yX2_init cX2_init 3 none :: TT) rm_X2_init (PcG D cy tq [.ref v0, .ref v1] sz Y M (f_X2_init Y v0 v1 M Kn)) (QA D cy (Am Y sz) Kn) 7 412130 (Am Y sz) := by
  refine Met.ofW (cc := cX2_init) (maxL := 3) (ret := none) (by decide) rfl ?_
  intro p e s m args below meth c s₁ B hml hv
  obtain ⟨hargs, hsz, hW, hK, hC, hf⟩ := hv
  subst hsz
  have hx := B.exec
  have hb := B.bytes
  have hr := B.returns
  have hts : ∀ w ∈ TT, w.before args s = true := fun w h => atoms_spec (ws := Cond.code yX2_init cX2_init 3 none :: TT) B.pre w (List.mem_cons_of_mem _ h)
  have hown : s.vm.findClass RX2 = some m.cls := findClass_of_methodNamed B.named
  have hlocks := B.notSynchronized
  have hin : meth.name = "<init>" := (name_of_methodNamed B.named B.method).1
  replace hW := Wd_self (sz := s.heap.size) hW
  generalize hAe : Am Y s.heap.size = A at hW hC ⊢
  have hA : ∀ q : Nat, s.heap.size ≤ q → A q := fun q h => by rw [← hAe]; exact Or.inr h
  clear hAe
  have hS : va_S A s.heap s.heap [] := va_S.rf
  obtain ⟨ls, hE, hl⟩ := gm_entry m [.ref v0, .ref v1] (n := 3) hargs (Nat.le_of_ble_eq_true rfl)
  rw [hE]
  have hl : lv_has ls 3 [(0, .ref v0), (1, .ref v1)] := hl
  show W p l e rm_X2_init s m args below meth c s.heap [] 0 0 (MQ below (QA D cy A Kn) args s 7 412130 A) (F0 m 0 ls [])
  unfold f_X2_init at hf
  refine lv_aload_n hx hb dX2_init_0 rfl (lv_at hl 0 rfl) ?_
  refine W.objInit hx hb hown (hts _ kw_237) (hts _ kw_36) (hts _ kw_37) rfl (by rw [hml]; exact hl.1) rfl dX2_init_1 (Nat.le_of_ble_eq_true rfl) (Nat.le_of_ble_eq_true rfl) ?_
  refine W.eq (g2 := F0 m 4 ls []) rfl ?_
  refine lv_aload_n hx hb dX2_init_4 rfl (lv_at hl 0 rfl) ?_
  refine gm_new (ci := 10) hx hb hts inT_10 tyX10 tyX10_ok hown (hts _ kw_238) (hts _ kw_62) (hts _ kw_4) hK hW hS hA rfl (by decide) rfl def_10 (by show _ ≤ 7; omega) (by show _ ≤ 412130; omega) dX2_init_5 (fun q1 H Y2 M3 h0q1 eY2 eM3 hW hS => ?_)
  replace hf := hf q1 h0q1 Y2 eY2 M3 eM3
  refine lv_dup hx hb dX2_init_8 rfl ?_
  refine gm_ca (va_runIN (As := []) (rest := [.ref q1, .ref v0]) ⟨hx, hb, hml, hown, hts⟩ (m_X10_init l D cy tq _ Y2 _ _ _) ⟨va_cnB 0 hts (good_C kw_64) rfl rfl rfl hC.2.2.2.2.2.2.2.2.2.2.1 (hts _ kw_4) (by decide +kernel) ⟨Nat.le_of_ble_eq_true rfl, Nat.le_of_ble_eq_true rfl⟩, rfl, hts _ kw_63⟩ (gm_preS hK hW hC hS hA hf) rfl rfl hl.1 rfl (lv_room (Nat.le_of_ble_eq_true rfl)) dX2_init_9 ⟨by show _ ≤ 7; omega, by show _ ≤ 412130; omega⟩) hW hS hA (fun Y4 M5 H locs hW hS hf => ?_)
  obtain ⟨k6, hf⟩ := hf
  refine gm_putFR (C := RX2) (T := TX2) (N := 13) (j := 2) hx hb hts inT_2 tyX2 tyX2_ok nmX2 hown hK hW hS k6 (by decide) rfl (by decide) rfl (hts _ kw_241) rfl rfl hin rfl rfl rfl dX2_init_12 (fun H locs M7 eM7 hW hS => ?_)
  replace hf := hf M7 eM7
  refine lv_aload_n hx hb dX2_init_15 rfl (lv_at hl 0 rfl) ?_
  refine lv_bipush (v := 60) hx hb dX2_init_16 (by decide +kernel) ?_
  refine gm_newi hx hb (hts _ kw_129) hK hW hS hA (n := 60) 60 (by decide +kernel) (by decide +kernel) (Nat.le_refl _) (by decide) (by show _ ≤ 7; omega) (by show _ ≤ 412130; omega) dX2_init_18 (fun q8 H Y9 M10 h0q8 eY9 eM10 hW hS => ?_)
  replace hf := hf q8 h0q8 Y9 eY9 M10 eM10
  obtain ⟨k11, hf⟩ := hf
  refine gm_putFR (C := RX2) (T := TX2) (N := 13) (j := 10) hx hb hts inT_2 tyX2 tyX2_ok nmX2 hown hK hW hS k11 (by decide) rfl (by decide) rfl (hts _ kw_249) rfl rfl hin rfl rfl rfl dX2_init_20 (fun H locs M12 eM12 hW hS => ?_)
  replace hf := hf M12 eM12
  refine lv_aload_n hx hb dX2_init_23 rfl (lv_at hl 0 rfl) ?_
  refine lv_bipush (v := 60) hx hb dX2_init_24 (by decide +kernel) ?_
  refine gm_newi hx hb (hts _ kw_129) hK hW hS hA (n := 60) 60 (by decide +kernel) (by decide +kernel) (Nat.le_refl _) (by decide) (by show _ ≤ 7; omega) (by show _ ≤ 412130; omega) dX2_init_26 (fun q13 H Y14 M15 h0q13 eY14 eM15 hW hS => ?_)
  replace hf := hf q13 h0q13 Y14 eY14 M15 eM15
  obtain ⟨k16, hf⟩ := hf
  refine gm_putFR (C := RX2) (T := TX2) (N := 13) (j := 11) hx hb hts inT_2 tyX2 tyX2_ok nmX2 hown hK hW hS k16 (by decide) rfl (by decide) rfl (hts _ kw_250) rfl rfl hin rfl rfl rfl dX2_init_28 (fun H locs M17 eM17 hW hS => ?_)
  replace hf := hf M17 eM17
  refine lv_aload_n hx hb dX2_init_31 rfl (lv_at hl 0 rfl) ?_
  refine lv_bipush (v := 60) hx hb dX2_init_32 (by decide +kernel) ?_
  refine gm_newi hx hb (hts _ kw_129) hK hW hS hA (n := 60) 60 (by decide +kernel) (by decide +kernel) (Nat.le_refl _) (by decide) (by show _ ≤ 7; omega) (by show _ ≤ 412130; omega) dX2_init_34 (fun q18 H Y19 M20 h0q18 eY19 eM20 hW hS => ?_)
  replace hf := hf q18 h0q18 Y19 eY19 M20 eM20
  obtain ⟨k21, hf⟩ := hf
  refine gm_putFR (C := RX2) (T := TX2) (N := 13) (j := 12) hx hb hts inT_2 tyX2 tyX2_ok nmX2 hown hK hW hS k21 (by decide) rfl (by decide) rfl (hts _ kw_251) rfl rfl hin rfl rfl rfl dX2_init_36 (fun H locs M22 eM22 hW hS => ?_)
  replace hf := hf M22 eM22
  refine lv_aload_n hx hb dX2_init_39 rfl (lv_at hl 0 rfl) ?_
  refine lv_aload_n hx hb dX2_init_40 rfl (lv_at hl 1 rfl) ?_
  refine gm_putFR (C := RX2) (T := TX2) (N := 13) (j := 0) hx hb hts inT_2 tyX2 tyX2_ok nmX2 hown hK hW hS k21 (by decide) rfl (by decide) rfl (hts _ kw_239) rfl rfl hin rfl rfl rfl dX2_init_41 (fun H locs M23 eM23 hW hS => ?_)
  replace hf := hf M23 eM23
  refine lv_aload_n hx hb dX2_init_44 rfl (lv_at hl 0 rfl) ?_
  refine lv_aload_n hx hb dX2_init_45 rfl (lv_at hl 1 rfl) ?_
  obtain ⟨k24, hf⟩ := hf
  obtain ⟨b25, hb25, hf⟩ := hf
  refine gm_getR (C := RX9) (T := TX9) (N := 7) (j := 0) hx hb hts inT_9 hown hK hW k24 (by decide) rfl (by decide) rfl (hts _ kw_214) rfl dX2_init_46 hb25 ?_
  obtain ⟨k26, hf⟩ := hf
  obtain ⟨b27, hb27, hf⟩ := hf
  refine gm_getR (C := RX3) (T := TX3) (N := 4) (j := 0) hx hb hts inT_3 hown hK hW k26 (by decide) rfl (by decide) rfl (hts _ kw_143) rfl dX2_init_49 hb27 ?_
  refine gm_putFR (C := RX2) (T := TX2) (N := 13) (j := 1) hx hb hts inT_2 tyX2 tyX2_ok nmX2 hown hK hW hS k21 (by decide) rfl (by decide) rfl (hts _ kw_240) rfl rfl hin rfl rfl rfl dX2_init_52 (fun H locs M28 eM28 hW hS => ?_)
  replace hf := hf M28 eM28
  refine lv_iconst (v := 2) hx hb dX2_init_55 (by decide +kernel) ?_
  refine lv_aload_n hx hb dX2_init_56 rfl (lv_at hl 0 rfl) ?_
  obtain ⟨b29, hb29, hf⟩ := hf
  refine gm_getR (C := RX2) (T := TX2) (N := 13) (j := 1) hx hb hts inT_2 hown hK hW k21 (by decide) rfl (by decide) rfl (hts _ kw_240) rfl dX2_init_57 hb29 ?_
  obtain ⟨k30, hf⟩ := hf
  refine gm_alen hx hb hK hW (by rw [k30]; decide) dX2_init_60 ?_
  refine lv_bipush (v := 7) hx hb dX2_init_61 (by decide +kernel) ?_
  refine lv_idiv hx hb dX2_init_63 (by decide) ?_
  refine lv_imul hx hb dX2_init_64 ?_
  refine lv_iconst (v := 1) hx hb dX2_init_65 (by decide +kernel) ?_
  refine lv_iadd hx hb dX2_init_66 ?_
  refine lv_topi (fun x32 ex32 => ?_)
  replace hf := hf x32 ex32
  refine lv_istore_n (lv' := [(2, .int x32), (0, .ref v0), (1, .ref v1)]) hx hb dX2_init_67 rfl hl (by decide) rfl (fun ls hl => ?_)
  refine lv_aload_n hx hb dX2_init_68 rfl (lv_at hl 1 rfl) ?_
  refine lv_iload_n hx hb dX2_init_69 rfl (lv_at hl 0 rfl) ?_
  obtain ⟨h33, h34, hf⟩ := hf
  refine gm_newi hx hb (hts _ kw_129) hK hW hS hA (n := _) 74899 h33 rfl h34 (by decide) (by show _ ≤ 7; omega) (by show _ ≤ 412130; omega) dX2_init_70 (fun q35 H Y36 M37 h0q35 eY36 eM37 hW hS => ?_)
  replace hf := hf q35 h0q35 Y36 eY36 M37 eM37
  obtain ⟨k38, hf⟩ := hf
  refine gm_putFR (C := RX2) (T := TX2) (N := 13) (j := 3) hx hb hts inT_2 tyX2 tyX2_ok nmX2 hown hK hW hS k38 (by decide) rfl (by decide) rfl (hts _ kw_242) rfl rfl hin rfl rfl rfl dX2_init_72 (fun H locs M39 eM39 hW hS => ?_)
  replace hf := hf M39 eM39
  refine lv_aload_n hx hb dX2_init_75 rfl (lv_at hl 1 rfl) ?_
  refine lv_iload_n hx hb dX2_init_76 rfl (lv_at hl 0 rfl) ?_
  obtain ⟨h40, h41, hf⟩ := hf
  refine gm_newi hx hb (hts _ kw_129) hK hW hS hA (n := _) 74899 h40 rfl h41 (by decide) (by show _ ≤ 7; omega) (by show _ ≤ 412130; omega) dX2_init_77 (fun q42 H Y43 M44 h0q42 eY43 eM44 hW hS => ?_)
  replace hf := hf q42 h0q42 Y43 eY43 M44 eM44
  obtain ⟨k45, hf⟩ := hf
  refine gm_putFR (C := RX2) (T := TX2) (N := 13) (j := 4) hx hb hts inT_2 tyX2 tyX2_ok nmX2 hown hK hW hS k45 (by decide) rfl (by decide) rfl (hts _ kw_243) rfl rfl hin rfl rfl rfl dX2_init_79 (fun H locs M46 eM46 hW hS => ?_)
  replace hf := hf M46 eM46
  refine lv_aload_n hx hb dX2_init_82 rfl (lv_at hl 1 rfl) ?_
  refine lv_aload_n hx hb dX2_init_83 rfl (lv_at hl 1 rfl) ?_
  obtain ⟨b47, hb47, hf⟩ := hf
  refine gm_getR (C := RX2) (T := TX2) (N := 13) (j := 1) hx hb hts inT_2 hown hK hW k45 (by decide) rfl (by decide) rfl (hts _ kw_240) rfl dX2_init_84 hb47 ?_
  obtain ⟨k48, hf⟩ := hf
  refine gm_alen hx hb hK hW (by rw [k48]; decide) dX2_init_87 ?_
  obtain ⟨h49, h50, hf⟩ := hf
  refine gm_newb hx hb (hts _ kw_55) hK hW hS hA (n := _) 262144 h49 rfl h50 (by decide) (by show _ ≤ 7; omega) (by show _ ≤ 412130; omega) dX2_init_88 (fun q51 H Y52 M53 h0q51 eY52 eM53 hW hS => ?_)
  replace hf := hf q51 h0q51 Y52 eY52 M53 eM53
  obtain ⟨k54, hf⟩ := hf
  refine gm_putFR (C := RX2) (T := TX2) (N := 13) (j := 6) hx hb hts inT_2 tyX2 tyX2_ok nmX2 hown hK hW hS k54 (by decide) rfl (by decide) rfl (hts _ kw_245) rfl rfl hin rfl rfl rfl dX2_init_90 (fun H locs M55 eM55 hW hS => ?_)
  replace hf := hf M55 eM55
  refine W.widen (k := 7) (n := 412130) (by omega) (by omega) ?_
  exact gm_vretA hx hb hr hlocks hW hS hf dX2_init_93

abbrev rm_X7_init : Room := { frames := 2, cells := 7, slots := 182, locals := 80 }
def f_X7_init (Y : Ly) (v0 : Nat) (v1 : Nat) (M : Mm) (Kn : Ly → Mm → Prop) : Prop :=
  ∀ q1 : Nat, yK Y q1 = 0 → ∀ Y2 : Ly, Y2 = yNew Y q1 101 8 → ∀ M3 : Mm, M3 = mZ M q1 → (yK Y2 v0 = 7 ∧ (∀ M5 : Mm, M5 = sR M3 v0 (m1 (mR M3 v0) 1 (some q1)) → (∀ q6 : Nat, yK Y2 q6 = 0 → ∀ Y7 : Ly, Y7 = yNew Y2 q6 101 8 → ∀ M8 : Mm, M8 = mZ M5 q6 → (yK Y7 v0 = 7 ∧ (∀ M10 : Mm, M10 = sR M8 v0 (m1 (mR M8 v0) 2 (some q6)) → (∀ q11 : Nat, yK Y7 q11 = 0 → ∀ Y12 : Ly, Y12 = yNew Y7 q11 101 8 → ∀ M13 : Mm, M13 = mZ M10 q11 → (yK Y12 v0 = 7 ∧ (∀ M15 : Mm, M15 = sR M13 v0 (m1 (mR M13 v0) 3 (some q11)) → (∀ q16 : Nat, yK Y12 q16 = 0 → ∀ Y17 : Ly, Y17 = yNew Y12 q16 101 8 → ∀ M18 : Mm, M18 = mZ M15 q16 → (yK Y17 v0 = 7 ∧ (∀ M20 : Mm, M20 = sR M18 v0 (m1 (mR M18 v0) 4 (some q16)) → (∀ q21 : Nat, yK Y17 q21 = 0 → ∀ Y22 : Ly, Y22 = yNew Y17 q21 101 8 → ∀ M23 : Mm, M23 = mZ M20 q21 → (yK Y22 v0 = 7 ∧ (∀ M25 : Mm, M25 = sR M23 v0 (m1 (mR M23 v0) 5 (some q21)) → (∀ q26 : Nat, yK Y22 q26 = 0 → ∀ Y27 : Ly, Y27 = yNew Y22 q26 101 64 → ∀ M28 : Mm, M28 = mZ M25 q26 → (yK Y27 v0 = 7 ∧ (∀ M30 : Mm, M30 = sR M28 v0 (m1 (mR M28 v0) 6 (some q26)) → (∀ q31 : Nat, yK Y27 q31 = 0 → ∀ Y32 : Ly, Y32 = yNew Y27 q31 100 78 → ∀ M33 : Mm, M33 = mZ M30 q31 → (yK Y32 v0 = 7 ∧ (∀ M35 : Mm, M35 = sR M33 v0 (m1 (mR M33 v0) 8 (some q31)) → (∀ M36 : Mm, M36 = sR M35 v0 (m1 (mR M35 v0) 7 (some v1)) → (Kn Y32 M36))))))))))))))))))))))
set_option maxHeartbeats 4000000 in
set_option maxRecDepth 100000 in
theorem m_X7_init (l : Launch) (D : va_G) (cy : Cy) (tq sz : Nat) (Y : Ly) (v0 : Nat) (v1 : Nat) (M : Mm) (Kn : Ly → Mm → Prop) : Met l yX7_init (Cond.code yX7_init cX7_init 2 none :: TT) rm_X7_init (PcG D cy tq [.ref v0, .ref v1] sz Y M (f_X7_init Y v0 v1 M Kn)) (QA D cy (Am Y sz) Kn) 7 182 (Am Y sz) := by
  refine Met.ofW (cc := cX7_init) (maxL := 2) (ret := none) (by decide) rfl ?_
  intro p e s m args below meth c s₁ B hml hv
  obtain ⟨hargs, hsz, hW, hK, hC, hf⟩ := hv
  subst hsz
  have hx := B.exec
  have hb := B.bytes
  have hr := B.returns
  have hts : ∀ w ∈ TT, w.before args s = true := fun w h => atoms_spec (ws := Cond.code yX7_init cX7_init 2 none :: TT) B.pre w (List.mem_cons_of_mem _ h)
  have hown : s.vm.findClass RX7 = some m.cls := findClass_of_methodNamed B.named
  have hlocks := B.notSynchronized
  have hin : meth.name = "<init>" := (name_of_methodNamed B.named B.method).1
  replace hW := Wd_self (sz := s.heap.size) hW
  generalize hAe : Am Y s.heap.size = A at hW hC ⊢
  have hA : ∀ q : Nat, s.heap.size ≤ q → A q := fun q h => by rw [← hAe]; exact Or.inr h
  clear hAe
  have hS : va_S A s.heap s.heap [] := va_S.rf
  obtain ⟨ls, hE, hl⟩ := gm_entry m [.ref v0, .ref v1] (n := 2) hargs (Nat.le_of_ble_eq_true rfl)
  rw [hE]
  have hl : lv_has ls 2 [(0, .ref v0), (1, .ref v1)] := hl
  show W p l e rm_X7_init s m args below meth c s.heap [] 0 0 (MQ below (QA D cy A Kn) args s 7 182 A) (F0 m 0 ls [])
  unfold f_X7_init at hf
  refine lv_aload_n hx hb dX7_init_0 rfl (lv_at hl 0 rfl) ?_
  refine W.objInit hx hb hown (hts _ kw_270) (hts _ kw_36) (hts _ kw_37) rfl (by rw [hml]; exact hl.1) rfl dX7_init_1 (Nat.le_of_ble_eq_true rfl) (Nat.le_of_ble_eq_true rfl) ?_
  refine W.eq (g2 := F0 m 4 ls []) rfl ?_
  refine lv_aload_n hx hb dX7_init_4 rfl (lv_at hl 0 rfl) ?_
  refine lv_bipush (v := 8) hx hb dX7_init_5 (by decide +kernel) ?_
  refine gm_newi hx hb (hts _ kw_129) hK hW hS hA (n := 8) 8 (by decide +kernel) (by decide +kernel) (Nat.le_refl _) (by decide) (by show _ ≤ 7; omega) (by show _ ≤ 182; omega) dX7_init_7 (fun q1 H Y2 M3 h0q1 eY2 eM3 hW hS => ?_)
  replace hf := hf q1 h0q1 Y2 eY2 M3 eM3
  obtain ⟨k4, hf⟩ := hf
  refine gm_putFR (C := RX7) (T := TX7) (N := 9) (j := 1) hx hb hts inT_7 tyX7 tyX7_ok nmX7 hown hK hW hS k4 (by decide) rfl (by decide) rfl (hts _ kw_273) rfl rfl hin rfl rfl rfl dX7_init_9 (fun H locs M5 eM5 hW hS => ?_)
  replace hf := hf M5 eM5
  refine lv_aload_n hx hb dX7_init_12 rfl (lv_at hl 0 rfl) ?_
  refine lv_bipush (v := 8) hx hb dX7_init_13 (by decide +kernel) ?_
  refine gm_newi hx hb (hts _ kw_129) hK hW hS hA (n := 8) 8 (by decide +kernel) (by decide +kernel) (Nat.le_refl _) (by decide) (by show _ ≤ 7; omega) (by show _ ≤ 182; omega) dX7_init_15 (fun q6 H Y7 M8 h0q6 eY7 eM8 hW hS => ?_)
  replace hf := hf q6 h0q6 Y7 eY7 M8 eM8
  obtain ⟨k9, hf⟩ := hf
  refine gm_putFR (C := RX7) (T := TX7) (N := 9) (j := 2) hx hb hts inT_7 tyX7 tyX7_ok nmX7 hown hK hW hS k9 (by decide) rfl (by decide) rfl (hts _ kw_275) rfl rfl hin rfl rfl rfl dX7_init_17 (fun H locs M10 eM10 hW hS => ?_)
  replace hf := hf M10 eM10
  refine lv_aload_n hx hb dX7_init_20 rfl (lv_at hl 0 rfl) ?_
  refine lv_bipush (v := 8) hx hb dX7_init_21 (by decide +kernel) ?_
  refine gm_newi hx hb (hts _ kw_129) hK hW hS hA (n := 8) 8 (by decide +kernel) (by decide +kernel) (Nat.le_refl _) (by decide) (by show _ ≤ 7; omega) (by show _ ≤ 182; omega) dX7_init_23 (fun q11 H Y12 M13 h0q11 eY12 eM13 hW hS => ?_)
  replace hf := hf q11 h0q11 Y12 eY12 M13 eM13
  obtain ⟨k14, hf⟩ := hf
  refine gm_putFR (C := RX7) (T := TX7) (N := 9) (j := 3) hx hb hts inT_7 tyX7 tyX7_ok nmX7 hown hK hW hS k14 (by decide) rfl (by decide) rfl (hts _ kw_277) rfl rfl hin rfl rfl rfl dX7_init_25 (fun H locs M15 eM15 hW hS => ?_)
  replace hf := hf M15 eM15
  refine lv_aload_n hx hb dX7_init_28 rfl (lv_at hl 0 rfl) ?_
  refine lv_bipush (v := 8) hx hb dX7_init_29 (by decide +kernel) ?_
  refine gm_newi hx hb (hts _ kw_129) hK hW hS hA (n := 8) 8 (by decide +kernel) (by decide +kernel) (Nat.le_refl _) (by decide) (by show _ ≤ 7; omega) (by show _ ≤ 182; omega) dX7_init_31 (fun q16 H Y17 M18 h0q16 eY17 eM18 hW hS => ?_)
  replace hf := hf q16 h0q16 Y17 eY17 M18 eM18
  obtain ⟨k19, hf⟩ := hf
  refine gm_putFR (C := RX7) (T := TX7) (N := 9) (j := 4) hx hb hts inT_7 tyX7 tyX7_ok nmX7 hown hK hW hS k19 (by decide) rfl (by decide) rfl (hts _ kw_279) rfl rfl hin rfl rfl rfl dX7_init_33 (fun H locs M20 eM20 hW hS => ?_)
  replace hf := hf M20 eM20
  refine lv_aload_n hx hb dX7_init_36 rfl (lv_at hl 0 rfl) ?_
  refine lv_bipush (v := 8) hx hb dX7_init_37 (by decide +kernel) ?_
  refine gm_newi hx hb (hts _ kw_129) hK hW hS hA (n := 8) 8 (by decide +kernel) (by decide +kernel) (Nat.le_refl _) (by decide) (by show _ ≤ 7; omega) (by show _ ≤ 182; omega) dX7_init_39 (fun q21 H Y22 M23 h0q21 eY22 eM23 hW hS => ?_)
  replace hf := hf q21 h0q21 Y22 eY22 M23 eM23
  obtain ⟨k24, hf⟩ := hf
  refine gm_putFR (C := RX7) (T := TX7) (N := 9) (j := 5) hx hb hts inT_7 tyX7 tyX7_ok nmX7 hown hK hW hS k24 (by decide) rfl (by decide) rfl (hts _ kw_281) rfl rfl hin rfl rfl rfl dX7_init_41 (fun H locs M25 eM25 hW hS => ?_)
  replace hf := hf M25 eM25
  refine lv_aload_n hx hb dX7_init_44 rfl (lv_at hl 0 rfl) ?_
  refine lv_bipush (v := 64) hx hb dX7_init_45 (by decide +kernel) ?_
  refine gm_newi hx hb (hts _ kw_129) hK hW hS hA (n := 64) 64 (by decide +kernel) (by decide +kernel) (Nat.le_refl _) (by decide) (by show _ ≤ 7; omega) (by show _ ≤ 182; omega) dX7_init_47 (fun q26 H Y27 M28 h0q26 eY27 eM28 hW hS => ?_)
  replace hf := hf q26 h0q26 Y27 eY27 M28 eM28
  obtain ⟨k29, hf⟩ := hf
  refine gm_putFR (C := RX7) (T := TX7) (N := 9) (j := 6) hx hb hts inT_7 tyX7 tyX7_ok nmX7 hown hK hW hS k29 (by decide) rfl (by decide) rfl (hts _ kw_282) rfl rfl hin rfl rfl rfl dX7_init_49 (fun H locs M30 eM30 hW hS => ?_)
  replace hf := hf M30 eM30
  refine lv_aload_n hx hb dX7_init_52 rfl (lv_at hl 0 rfl) ?_
  refine lv_bipush (v := 78) hx hb dX7_init_53 (by decide +kernel) ?_
  refine gm_newb hx hb (hts _ kw_55) hK hW hS hA (n := 78) 78 (by decide +kernel) (by decide +kernel) (Nat.le_refl _) (by decide) (by show _ ≤ 7; omega) (by show _ ≤ 182; omega) dX7_init_55 (fun q31 H Y32 M33 h0q31 eY32 eM33 hW hS => ?_)
  replace hf := hf q31 h0q31 Y32 eY32 M33 eM33
  obtain ⟨k34, hf⟩ := hf
  refine gm_putFR (C := RX7) (T := TX7) (N := 9) (j := 8) hx hb hts inT_7 tyX7 tyX7_ok nmX7 hown hK hW hS k34 (by decide) rfl (by decide) rfl (hts _ kw_284) rfl rfl hin rfl rfl rfl dX7_init_57 (fun H locs M35 eM35 hW hS => ?_)
  replace hf := hf M35 eM35
  refine lv_aload_n hx hb dX7_init_60 rfl (lv_at hl 0 rfl) ?_
  refine lv_aload_n hx hb dX7_init_61 rfl (lv_at hl 1 rfl) ?_
  refine gm_putFR (C := RX7) (T := TX7) (N := 9) (j := 7) hx hb hts inT_7 tyX7 tyX7_ok nmX7 hown hK hW hS k34 (by decide) rfl (by decide) rfl (hts _ kw_283) rfl rfl hin rfl rfl rfl dX7_init_62 (fun H locs M36 eM36 hW hS => ?_)
  replace hf := hf M36 eM36
  refine W.widen (k := 7) (n := 182) (by omega) (by omega) ?_
  exact gm_vretA hx hb hr hlocks hW hS hf dX7_init_65

abbrev rm_X11_init : Room := { frames := 4, cells := 83, slots := 785849, locals := 126 }
def f_X11_init (Y : Ly) (v0 : Nat) (v1 : Int32) (v2 : Int32) (v3 : Int32) (M : Mm) (Kn : Ly → Mm → Prop) : Prop :=
  ∀ q1 : Nat, yK Y q1 = 0 → ∀ Y2 : Ly, Y2 = yNew Y q1 100 16384 → ∀ M3 : Mm, M3 = mZ M q1 → (yK Y2 v0 = 11 ∧ (∀ M5 : Mm, M5 = sR M3 v0 (m1 (mR M3 v0) 1 (some q1)) → (∀ q6 : Nat, yK Y2 q6 = 0 → ∀ Y7 : Ly, Y7 = yNew Y2 q6 4 0 → ∀ M8 : Mm, M8 = mZ M5 q6 → (f_X4_init Y7 q6 M8 (fun Y9 M10 => (yK Y9 v0 = 11 ∧ (∀ M12 : Mm, M12 = sR M10 v0 (m1 (mR M10 v0) 3 (some q6)) → (∀ q13 : Nat, yK Y9 q13 = 0 → ∀ Y14 : Ly, Y14 = yNew Y9 q13 5 0 → ∀ M15 : Mm, M15 = mZ M12 q13 → (f_X5_init Y14 q13 M15 (fun Y16 M17 => (yK Y16 v0 = 11 ∧ (∀ M19 : Mm, M19 = sR M17 v0 (m1 (mR M17 v0) 4 (some q13)) → (∀ q20 : Nat, yK Y16 q20 = 0 → ∀ Y21 : Ly, Y21 = yNew Y16 q20 6 0 → ∀ M22 : Mm, M22 = mZ M19 q20 → (f_X6_init Y21 q20 M22 (fun Y23 M24 => (yK Y23 v0 = 11 ∧ (∀ M26 : Mm, M26 = sR M24 v0 (m1 (mR M24 v0) 5 (some q20)) → (∀ q27 : Nat, yK Y23 q27 = 0 → ∀ Y28 : Ly, Y28 = yNew Y23 q27 100 8 → ∀ M29 : Mm, M29 = mZ M26 q27 → (yK Y28 v0 = 11 ∧ (∀ M31 : Mm, M31 = sR M29 v0 (m1 (mR M29 v0) 7 (some q27)) → (∀ x32 : Int32, x32 = (if 1 < (if 8 < v1 then 8 else v1) then (if 8 < v1 then 8 else v1) else 1) → (∀ q33 : Nat, yK Y28 q33 = 0 → ∀ Y34 : Ly, Y34 = yNew Y28 q33 3 0 → ∀ M35 : Mm, M35 = mZ M31 q33 → (f_X3_init Y34 q33 (if 32 < (if 256 < v3 then 256 else v3) then (if 256 < v3 then 256 else v3) else 32) M35 (fun Y36 M37 => (∀ q38 : Nat, yK Y36 q38 = 0 → ∀ Y39 : Ly, Y39 = yNew Y36 q38 9 0 → ∀ M40 : Mm, M40 = mZ M37 q38 → (f_X9_init Y39 q38 q33 x32 (if 1 < (if 16 < v2 then 16 else v2) then (if 16 < v2 then 16 else v2) else 1) M40 (fun Y41 M42 => (yK Y41 v0 = 11 ∧ (∀ M44 : Mm, M44 = sI M42 v0 (m1 (mI M42 v0) 0 x32) → (∀ M45 : Mm, M45 = sR M44 v0 (m1 (mR M44 v0) 6 (some q33)) → (∀ M46 : Mm, M46 = sR M45 v0 (m1 (mR M45 v0) 10 (some q38)) → (∀ q47 : Nat, yK Y41 q47 = 0 → ∀ Y48 : Ly, Y48 = yNew Y41 q47 2 0 → ∀ M49 : Mm, M49 = mZ M46 q47 → (f_X2_init Y48 q47 q38 M49 (fun Y50 M51 => (yK Y50 v0 = 11 ∧ (∀ M53 : Mm, M53 = sR M51 v0 (m1 (mR M51 v0) 11 (some q47)) → (∀ q54 : Nat, yK Y50 q54 = 0 → ∀ Y55 : Ly, Y55 = yNew Y50 q54 7 0 → ∀ M56 : Mm, M56 = mZ M53 q54 → (f_X7_init Y55 q54 q38 M56 (fun Y57 M58 => (yK Y57 v0 = 11 ∧ (∀ M60 : Mm, M60 = sR M58 v0 (m1 (mR M58 v0) 12 (some q54)) → (Kn Y57 M60))))))))))))))))))))))))))))))))))))))))))
set_option maxHeartbeats 4000000 in
set_option maxRecDepth 100000 in
theorem m_X11_init (l : Launch) (D : va_G) (cy : Cy) (tq sz : Nat) (Y : Ly) (v0 : Nat) (v1 : Int32) (v2 : Int32) (v3 : Int32) (M : Mm) (Kn : Ly → Mm → Prop) : Met l yX11_init (Cond.code yX11_init cX11_init 7 none :: TT) rm_X11_init (PcG D cy tq [.ref v0, .int v1, .int v2, .int v3] sz Y M (f_X11_init Y v0 v1 v2 v3 M Kn)) (QA D cy (Am Y sz) Kn) 83 785849 (Am Y sz) := by
  refine Met.ofW (cc := cX11_init) (maxL := 7) (ret := none) (by decide) rfl ?_
  intro p e s m args below meth c s₁ B hml hv
  obtain ⟨hargs, hsz, hW, hK, hC, hf⟩ := hv
  subst hsz
  have hx := B.exec
  have hb := B.bytes
  have hr := B.returns
  have hts : ∀ w ∈ TT, w.before args s = true := fun w h => atoms_spec (ws := Cond.code yX11_init cX11_init 7 none :: TT) B.pre w (List.mem_cons_of_mem _ h)
  have hown : s.vm.findClass RX11 = some m.cls := findClass_of_methodNamed B.named
  have hlocks := B.notSynchronized
  have hin : meth.name = "<init>" := (name_of_methodNamed B.named B.method).1
  replace hW := Wd_self (sz := s.heap.size) hW
  generalize hAe : Am Y s.heap.size = A at hW hC ⊢
  have hA : ∀ q : Nat, s.heap.size ≤ q → A q := fun q h => by rw [← hAe]; exact Or.inr h
  clear hAe
  have hS : va_S A s.heap s.heap [] := va_S.rf
  obtain ⟨ls, hE, hl⟩ := gm_entry m [.ref v0, .int v1, .int v2, .int v3] (n := 7) hargs (Nat.le_of_ble_eq_true rfl)
  rw [hE]
  have hl : lv_has ls 7 [(0, .ref v0), (1, .int v1), (2, .int v2), (3, .int v3)] := hl
  show W p l e rm_X11_init s m args below meth c s.heap [] 0 0 (MQ below (QA D cy A Kn) args s 83 785849 A) (F0 m 0 ls [])
  unfold f_X11_init at hf
  refine lv_aload_n hx hb dX11_init_0 rfl (lv_at hl 0 rfl) ?_
  refine W.objInit hx hb hown (hts _ kw_35) (hts _ kw_36) (hts _ kw_37) rfl (by rw [hml]; exact hl.1) rfl dX11_init_1 (Nat.le_of_ble_eq_true rfl) (Nat.le_of_ble_eq_true rfl) ?_
  refine W.eq (g2 := F0 m 4 ls []) rfl ?_
  refine lv_aload_n hx hb dX11_init_4 rfl (lv_at hl 0 rfl) ?_
  refine lv_sipush (v := 16384) hx hb dX11_init_5 (by decide +kernel) ?_
  refine gm_newb hx hb (hts _ kw_55) hK hW hS hA (n := 16384) 16384 (by decide +kernel) (by decide +kernel) (Nat.le_refl _) (by decide) (by show _ ≤ 83; omega) (by show _ ≤ 785849; omega) dX11_init_8 (fun q1 H Y2 M3 h0q1 eY2 eM3 hW hS => ?_)
  replace hf := hf q1 h0q1 Y2 eY2 M3 eM3
  obtain ⟨k4, hf⟩ := hf
  refine gm_putFR (C := RX11) (T := TX11) (N := 13) (j := 1) hx hb hts inT_11 tyX11 tyX11_ok nmX11 hown hK hW hS k4 (by decide) rfl (by decide) rfl (hts _ kw_295) rfl rfl hin rfl rfl rfl dX11_init_10 (fun H locs M5 eM5 hW hS => ?_)
  replace hf := hf M5 eM5
  refine lv_aload_n hx hb dX11_init_13 rfl (lv_at hl 0 rfl) ?_
  refine gm_new (ci := 4) hx hb hts inT_4 tyX4 tyX4_ok hown (hts _ kw_38) (hts _ kw_39) (hts _ kw_2) hK hW hS hA rfl (by decide) rfl def_4 (by show _ ≤ 83; omega) (by show _ ≤ 785849; omega) dX11_init_14 (fun q6 H Y7 M8 h0q6 eY7 eM8 hW hS => ?_)
  replace hf := hf q6 h0q6 Y7 eY7 M8 eM8
  refine lv_dup hx hb dX11_init_17 rfl ?_
  refine gm_ca (va_runIN (As := []) (rest := [.ref q6, .ref v0]) ⟨hx, hb, hml, hown, hts⟩ (m_X4_init l D cy tq _ Y7 _ _ _) ⟨va_cnB 0 hts (good_C kw_41) rfl rfl rfl hC.2.2.2.2.1 (hts _ kw_2) (by decide +kernel) ⟨Nat.le_of_ble_eq_true rfl, Nat.le_of_ble_eq_true rfl⟩, rfl, hts _ kw_40⟩ (gm_preS hK hW hC hS hA hf) rfl rfl hl.1 rfl (lv_room (Nat.le_of_ble_eq_true rfl)) dX11_init_18 ⟨by show _ ≤ 83; omega, by show _ ≤ 785849; omega⟩) hW hS hA (fun Y9 M10 H locs hW hS hf => ?_)
  obtain ⟨k11, hf⟩ := hf
  refine gm_putFR (C := RX11) (T := TX11) (N := 13) (j := 3) hx hb hts inT_11 tyX11 tyX11_ok nmX11 hown hK hW hS k11 (by decide) rfl (by decide) rfl (hts _ kw_297) rfl rfl hin rfl rfl rfl dX11_init_21 (fun H locs M12 eM12 hW hS => ?_)
  replace hf := hf M12 eM12
  refine lv_aload_n hx hb dX11_init_24 rfl (lv_at hl 0 rfl) ?_
  refine gm_new (ci := 5) hx hb hts inT_5 tyX5 tyX5_ok hown (hts _ kw_56) (hts _ kw_57) (hts _ kw_3) hK hW hS hA rfl (by decide) rfl def_5 (by show _ ≤ 83; omega) (by show _ ≤ 785849; omega) dX11_init_25 (fun q13 H Y14 M15 h0q13 eY14 eM15 hW hS => ?_)
  replace hf := hf q13 h0q13 Y14 eY14 M15 eM15
  refine lv_dup hx hb dX11_init_28 rfl ?_
  refine gm_ca (va_runIN (As := []) (rest := [.ref q13, .ref v0]) ⟨hx, hb, hml, hown, hts⟩ (m_X5_init l D cy tq _ Y14 _ _ _) ⟨va_cnB 0 hts (good_C kw_59) rfl rfl rfl hC.2.2.2.2.2.1 (hts _ kw_3) (by decide +kernel) ⟨Nat.le_of_ble_eq_true rfl, Nat.le_of_ble_eq_true rfl⟩, rfl, hts _ kw_58⟩ (gm_preS hK hW hC hS hA hf) rfl rfl hl.1 rfl (lv_room (Nat.le_of_ble_eq_true rfl)) dX11_init_29 ⟨by show _ ≤ 83; omega, by show _ ≤ 785849; omega⟩) hW hS hA (fun Y16 M17 H locs hW hS hf => ?_)
  obtain ⟨k18, hf⟩ := hf
  refine gm_putFR (C := RX11) (T := TX11) (N := 13) (j := 4) hx hb hts inT_11 tyX11 tyX11_ok nmX11 hown hK hW hS k18 (by decide) rfl (by decide) rfl (hts _ kw_298) rfl rfl hin rfl rfl rfl dX11_init_32 (fun H locs M19 eM19 hW hS => ?_)
  replace hf := hf M19 eM19
  refine lv_aload_n hx hb dX11_init_35 rfl (lv_at hl 0 rfl) ?_
  refine gm_new (ci := 6) hx hb hts inT_6 tyX6 tyX6_ok hown (hts _ kw_108) (hts _ kw_109) (hts _ kw_5) hK hW hS hA rfl (by decide) rfl def_6 (by show _ ≤ 83; omega) (by show _ ≤ 785849; omega) dX11_init_36 (fun q20 H Y21 M22 h0q20 eY21 eM22 hW hS => ?_)
  replace hf := hf q20 h0q20 Y21 eY21 M22 eM22
  refine lv_dup hx hb dX11_init_39 rfl ?_
  refine gm_ca (va_runIN (As := []) (rest := [.ref q20, .ref v0]) ⟨hx, hb, hml, hown, hts⟩ (m_X6_init l D cy tq _ Y21 _ _ _) ⟨va_cnB 0 hts (good_C kw_111) rfl rfl rfl hC.2.2.2.2.2.2.2.1 (hts _ kw_5) (by decide +kernel) ⟨Nat.le_of_ble_eq_true rfl, Nat.le_of_ble_eq_true rfl⟩, rfl, hts _ kw_110⟩ (gm_preS hK hW hC hS hA hf) rfl rfl hl.1 rfl (lv_room (Nat.le_of_ble_eq_true rfl)) dX11_init_40 ⟨by show _ ≤ 83; omega, by show _ ≤ 785849; omega⟩) hW hS hA (fun Y23 M24 H locs hW hS hf => ?_)
  obtain ⟨k25, hf⟩ := hf
  refine gm_putFR (C := RX11) (T := TX11) (N := 13) (j := 5) hx hb hts inT_11 tyX11 tyX11_ok nmX11 hown hK hW hS k25 (by decide) rfl (by decide) rfl (hts _ kw_299) rfl rfl hin rfl rfl rfl dX11_init_43 (fun H locs M26 eM26 hW hS => ?_)
  replace hf := hf M26 eM26
  refine lv_aload_n hx hb dX11_init_46 rfl (lv_at hl 0 rfl) ?_
  refine lv_bipush (v := 8) hx hb dX11_init_47 (by decide +kernel) ?_
  refine gm_newb hx hb (hts _ kw_55) hK hW hS hA (n := 8) 8 (by decide +kernel) (by decide +kernel) (Nat.le_refl _) (by decide) (by show _ ≤ 83; omega) (by show _ ≤ 785849; omega) dX11_init_49 (fun q27 H Y28 M29 h0q27 eY28 eM29 hW hS => ?_)
  replace hf := hf q27 h0q27 Y28 eY28 M29 eM29
  obtain ⟨k30, hf⟩ := hf
  refine gm_putFR (C := RX11) (T := TX11) (N := 13) (j := 7) hx hb hts inT_11 tyX11 tyX11_ok nmX11 hown hK hW hS k30 (by decide) rfl (by decide) rfl (hts _ kw_301) rfl rfl hin rfl rfl rfl dX11_init_51 (fun H locs M31 eM31 hW hS => ?_)
  replace hf := hf M31 eM31
  refine lv_iconst (v := 1) hx hb dX11_init_54 (by decide +kernel) ?_
  refine lv_iload_n hx hb dX11_init_55 rfl (lv_at hl 1 rfl) ?_
  refine lv_bipush (v := 8) hx hb dX11_init_56 (by decide +kernel) ?_
  refine va_mmin hx hb (by rw [hml]; exact hl.1.symm) hown (hts _ kw_130) (hts _ kw_131) (hts _ kw_6) (hts _ kmath_minI) (Nat.le_of_ble_eq_true rfl) (Nat.le_of_ble_eq_true rfl) (by show _ ≤ 83; omega) (by show _ ≤ 785849; omega) dX11_init_58 ?_
  refine va_mmax hx hb (by rw [hml]; exact hl.1.symm) hown (hts _ kw_133) (hts _ kw_134) (hts _ kw_6) (hts _ kmath_maxI) (Nat.le_of_ble_eq_true rfl) (Nat.le_of_ble_eq_true rfl) (by show _ ≤ 83; omega) (by show _ ≤ 785849; omega) dX11_init_61 ?_
  refine lv_topi (fun x32 ex32 => ?_)
  replace hf := hf x32 ex32
  refine lv_istore (lv' := [(4, .int x32), (0, .ref v0), (1, .int v1), (2, .int v2), (3, .int v3)]) hx hb dX11_init_64 hl (by decide) rfl (fun ls hl => ?_)
  refine gm_new (ci := 3) hx hb hts inT_3 tyX3 tyX3_ok hown (hts _ kw_136) (hts _ kw_137) (hts _ kw_7) hK hW hS hA rfl (by decide) rfl def_3 (by show _ ≤ 83; omega) (by show _ ≤ 785849; omega) dX11_init_66 (fun q33 H Y34 M35 h0q33 eY34 eM35 hW hS => ?_)
  replace hf := hf q33 h0q33 Y34 eY34 M35 eM35
  refine lv_dup hx hb dX11_init_69 rfl ?_
  refine lv_bipush (v := 32) hx hb dX11_init_70 (by decide +kernel) ?_
  refine lv_iload_n hx hb dX11_init_72 rfl (lv_at hl 4 rfl) ?_
  refine lv_sipush (v := 256) hx hb dX11_init_73 (by decide +kernel) ?_
  refine va_mmin hx hb (by rw [hml]; exact hl.1.symm) hown (hts _ kw_130) (hts _ kw_131) (hts _ kw_6) (hts _ kmath_minI) (Nat.le_of_ble_eq_true rfl) (Nat.le_of_ble_eq_true rfl) (by show _ ≤ 83; omega) (by show _ ≤ 785849; omega) dX11_init_76 ?_
  refine va_mmax hx hb (by rw [hml]; exact hl.1.symm) hown (hts _ kw_133) (hts _ kw_134) (hts _ kw_6) (hts _ kmath_maxI) (Nat.le_of_ble_eq_true rfl) (Nat.le_of_ble_eq_true rfl) (by show _ ≤ 83; omega) (by show _ ≤ 785849; omega) dX11_init_79 ?_
  refine gm_ca (va_runI (As := [.int (if 32 < (if 256 < v3 then 256 else v3) then (if 256 < v3 then 256 else v3) else 32)]) (rest := [.ref q33]) ⟨hx, hb, hml, hown, hts⟩ (m_X3_init l D cy tq _ Y34 _ _ _ _) (cwI 1 hts (good_C kw_140) rfl rfl rfl (hts _ kw_7) (hts _ kw_138) (hts _ kw_139) rfl (by decide +kernel) ⟨Nat.le_of_ble_eq_true rfl, Nat.le_of_ble_eq_true rfl⟩) (gm_preS hK hW hC hS hA hf) rfl rfl hl.1 rfl (lv_room (Nat.le_of_ble_eq_true rfl)) dX11_init_82 ⟨by show _ ≤ 83; omega, by show _ ≤ 785849; omega⟩) hW hS hA (fun Y36 M37 H locs hW hS hf => ?_)
  refine lv_astore (lv' := [(5, .ref q33), (4, .int x32), (0, .ref v0), (1, .int v1), (2, .int v2), (3, .int v3)]) hx hb dX11_init_85 hl (by decide) rfl (fun ls hl => ?_)
  refine gm_new (ci := 9) hx hb hts inT_9 tyX9 tyX9_ok hown (hts _ kw_157) (hts _ kw_158) (hts _ kw_8) hK hW hS hA rfl (by decide) rfl def_9 (by show _ ≤ 83; omega) (by show _ ≤ 785849; omega) dX11_init_87 (fun q38 H Y39 M40 h0q38 eY39 eM40 hW hS => ?_)
  replace hf := hf q38 h0q38 Y39 eY39 M40 eM40
  refine lv_dup hx hb dX11_init_90 rfl ?_
  refine lv_aload hx hb dX11_init_91 (lv_at hl 0 rfl) ?_
  refine lv_iload hx hb dX11_init_93 (lv_at hl 1 rfl) ?_
  refine lv_iconst (v := 1) hx hb dX11_init_95 (by decide +kernel) ?_
  refine lv_iload_n hx hb dX11_init_96 rfl (lv_at hl 4 rfl) ?_
  refine lv_bipush (v := 16) hx hb dX11_init_97 (by decide +kernel) ?_
  refine va_mmin hx hb (by rw [hml]; exact hl.1.symm) hown (hts _ kw_130) (hts _ kw_131) (hts _ kw_6) (hts _ kmath_minI) (Nat.le_of_ble_eq_true rfl) (Nat.le_of_ble_eq_true rfl) (by show _ ≤ 83; omega) (by show _ ≤ 785849; omega) dX11_init_99 ?_
  refine va_mmax hx hb (by rw [hml]; exact hl.1.symm) hown (hts _ kw_133) (hts _ kw_134) (hts _ kw_6) (hts _ kmath_maxI) (Nat.le_of_ble_eq_true rfl) (Nat.le_of_ble_eq_true rfl) (by show _ ≤ 83; omega) (by show _ ≤ 785849; omega) dX11_init_102 ?_
  refine gm_ca (va_runI (As := [.ref q33, .int x32, .int (if 1 < (if 16 < v2 then 16 else v2) then (if 16 < v2 then 16 else v2) else 1)]) (rest := [.ref q38]) ⟨hx, hb, hml, hown, hts⟩ (m_X9_init l D cy tq _ Y39 _ _ _ _ _ _) (cwI 3 hts (good_C kw_161) rfl rfl rfl (hts _ kw_8) (hts _ kw_159) (hts _ kw_160) rfl (by decide +kernel) ⟨Nat.le_of_ble_eq_true rfl, Nat.le_of_ble_eq_true rfl⟩) (gm_preS hK hW hC hS hA hf) rfl rfl hl.1 rfl (lv_room (Nat.le_of_ble_eq_true rfl)) dX11_init_105 ⟨by show _ ≤ 83; omega, by show _ ≤ 785849; omega⟩) hW hS hA (fun Y41 M42 H locs hW hS hf => ?_)
  refine lv_astore (lv' := [(6, .ref q38), (5, .ref q33), (4, .int x32), (0, .ref v0), (1, .int v1), (2, .int v2), (3, .int v3)]) hx hb dX11_init_108 hl (by decide) rfl (fun ls hl => ?_)
  refine lv_aload_n hx hb dX11_init_110 rfl (lv_at hl 3 rfl) ?_
  refine lv_iload hx hb dX11_init_111 (lv_at hl 2 rfl) ?_
  obtain ⟨k43, hf⟩ := hf
  refine gm_putFI (C := RX11) (T := TX11) (N := 13) (j := 0) hx hb hts inT_11 tyX11 tyX11_ok nmX11 hown hK hW hS k43 (by decide) rfl (by decide) rfl (hts _ kw_294) rfl rfl hin rfl rfl rfl dX11_init_113 (fun H locs M44 eM44 hW hS => ?_)
  replace hf := hf M44 eM44
  refine lv_aload_n hx hb dX11_init_116 rfl (lv_at hl 3 rfl) ?_
  refine lv_aload hx hb dX11_init_117 (lv_at hl 1 rfl) ?_
  refine gm_putFR (C := RX11) (T := TX11) (N := 13) (j := 6) hx hb hts inT_11 tyX11 tyX11_ok nmX11 hown hK hW hS k43 (by decide) rfl (by decide) rfl (hts _ kw_300) rfl rfl hin rfl rfl rfl dX11_init_119 (fun H locs M45 eM45 hW hS => ?_)
  replace hf := hf M45 eM45
  refine lv_aload_n hx hb dX11_init_122 rfl (lv_at hl 3 rfl) ?_
  refine lv_aload hx hb dX11_init_123 (lv_at hl 0 rfl) ?_
  refine gm_putFR (C := RX11) (T := TX11) (N := 13) (j := 10) hx hb hts inT_11 tyX11 tyX11_ok nmX11 hown hK hW hS k43 (by decide) rfl (by decide) rfl (hts _ kw_304) rfl rfl hin rfl rfl rfl dX11_init_125 (fun H locs M46 eM46 hW hS => ?_)
  replace hf := hf M46 eM46
  refine lv_aload_n hx hb dX11_init_128 rfl (lv_at hl 3 rfl) ?_
  refine gm_new (ci := 2) hx hb hts inT_2 tyX2 tyX2_ok hown (hts _ kw_232) (hts _ kw_233) (hts _ kw_10) hK hW hS hA rfl (by decide) rfl def_2 (by show _ ≤ 83; omega) (by show _ ≤ 785849; omega) dX11_init_129 (fun q47 H Y48 M49 h0q47 eY48 eM49 hW hS => ?_)
  replace hf := hf q47 h0q47 Y48 eY48 M49 eM49
  refine lv_dup hx hb dX11_init_132 rfl ?_
  refine lv_aload hx hb dX11_init_133 (lv_at hl 0 rfl) ?_
  refine gm_ca (va_runI (As := [.ref q38]) (rest := [.ref q47, .ref v0]) ⟨hx, hb, hml, hown, hts⟩ (m_X2_init l D cy tq _ Y48 _ _ _ _) (cwI 1 hts (good_C kw_236) rfl rfl rfl (hts _ kw_10) (hts _ kw_234) (hts _ kw_235) rfl (by decide +kernel) ⟨Nat.le_of_ble_eq_true rfl, Nat.le_of_ble_eq_true rfl⟩) (gm_preS hK hW hC hS hA hf) rfl rfl hl.1 rfl (lv_room (Nat.le_of_ble_eq_true rfl)) dX11_init_135 ⟨by show _ ≤ 83; omega, by show _ ≤ 785849; omega⟩) hW hS hA (fun Y50 M51 H locs hW hS hf => ?_)
  obtain ⟨k52, hf⟩ := hf
  refine gm_putFR (C := RX11) (T := TX11) (N := 13) (j := 11) hx hb hts inT_11 tyX11 tyX11_ok nmX11 hown hK hW hS k52 (by decide) rfl (by decide) rfl (hts _ kw_305) rfl rfl hin rfl rfl rfl dX11_init_138 (fun H locs M53 eM53 hW hS => ?_)
  replace hf := hf M53 eM53
  refine lv_aload_n hx hb dX11_init_141 rfl (lv_at hl 3 rfl) ?_
  refine gm_new (ci := 7) hx hb hts inT_7 tyX7 tyX7_ok hown (hts _ kw_265) (hts _ kw_266) (hts _ kw_11) hK hW hS hA rfl (by decide) rfl def_7 (by show _ ≤ 83; omega) (by show _ ≤ 785849; omega) dX11_init_142 (fun q54 H Y55 M56 h0q54 eY55 eM56 hW hS => ?_)
  replace hf := hf q54 h0q54 Y55 eY55 M56 eM56
  refine lv_dup hx hb dX11_init_145 rfl ?_
  refine lv_aload hx hb dX11_init_146 (lv_at hl 0 rfl) ?_
  refine gm_ca (va_runI (As := [.ref q38]) (rest := [.ref q54, .ref v0]) ⟨hx, hb, hml, hown, hts⟩ (m_X7_init l D cy tq _ Y55 _ _ _ _) (cwI 1 hts (good_C kw_269) rfl rfl rfl (hts _ kw_11) (hts _ kw_267) (hts _ kw_268) rfl (by decide +kernel) ⟨Nat.le_of_ble_eq_true rfl, Nat.le_of_ble_eq_true rfl⟩) (gm_preS hK hW hC hS hA hf) rfl rfl hl.1 rfl (lv_room (Nat.le_of_ble_eq_true rfl)) dX11_init_148 ⟨by show _ ≤ 83; omega, by show _ ≤ 785849; omega⟩) hW hS hA (fun Y57 M58 H locs hW hS hf => ?_)
  obtain ⟨k59, hf⟩ := hf
  refine gm_putFR (C := RX11) (T := TX11) (N := 13) (j := 12) hx hb hts inT_11 tyX11 tyX11_ok nmX11 hown hK hW hS k59 (by decide) rfl (by decide) rfl (hts _ kw_306) rfl rfl hin rfl rfl rfl dX11_init_151 (fun H locs M60 eM60 hW hS => ?_)
  replace hf := hf M60 eM60
  refine W.widen (k := 83) (n := 785849) (by omega) (by omega) ?_
  exact gm_vretA hx hb hr hlocks hW hS hf dX11_init_154

abbrev rm_X12_init : Room := { frames := 2, cells := 38, slots := 1447025, locals := 80 }
def f_X12_init_413 (Y191 : Ly) (v0 : Nat) (Kn : Ly → Mm → Prop) (M198 : Mm) (y199 : Int32) : Prop :=
  ∀ M200 : Mm, M200 = sI M198 v0 (m1 (mI M198 v0) 3 y199) → (Kn Y191 M200)
def f_X12_init_384 (Y191 : Ly) (v0 : Nat) (v3 : Int32) (Kn : Ly → Mm → Prop) (M196 : Mm) (y197 : Int32) : Prop :=
  ∀ M198 : Mm, M198 = sI M196 v0 (m1 (mI M196 v0) 2 y197) → ((32 ≤ v3 → ((v3 ≤ 256 → (f_X12_init_413 Y191 v0 Kn M198 v3)) ∧ (¬ (v3 ≤ 256) → (f_X12_init_413 Y191 v0 Kn M198 256)))) ∧ (¬ (32 ≤ v3) → (f_X12_init_413 Y191 v0 Kn M198 32)))
def f_X12_init_359 (Y191 : Ly) (v0 : Nat) (v2 : Int32) (v3 : Int32) (Kn : Ly → Mm → Prop) (M194 : Mm) (y195 : Int32) : Prop :=
  ∀ M196 : Mm, M196 = sI M194 v0 (m1 (mI M194 v0) 1 y195) → ((1 ≤ v2 → ((v2 ≤ 16 → (f_X12_init_384 Y191 v0 v3 Kn M196 v2)) ∧ (¬ (v2 ≤ 16) → (f_X12_init_384 Y191 v0 v3 Kn M196 16)))) ∧ (¬ (1 ≤ v2) → (f_X12_init_384 Y191 v0 v3 Kn M196 1)))
set_option maxRecDepth 100000 in
def f_X12_init (Y : Ly) (v0 : Nat) (v1 : Int32) (v2 : Int32) (v3 : Int32) (M : Mm) (Kn : Ly → Mm → Prop) : Prop :=
  yK Y v0 = 12 ∧ (∀ M2 : Mm, M2 = sI M v0 (m1 (mI M v0) 7 (-1)) → (∀ q3 : Nat, yK Y q3 = 0 → ∀ Y4 : Ly, Y4 = yNew Y q3 101 16384 → ∀ M5 : Mm, M5 = mZ M2 q3 → (yK Y4 v0 = 12 ∧ (∀ M7 : Mm, M7 = sR M5 v0 (m1 (mR M5 v0) 10 (some q3)) → (∀ q8 : Nat, yK Y4 q8 = 0 → ∀ Y9 : Ly, Y9 = yNew Y4 q8 102 1000 → ∀ M10 : Mm, M10 = mZ M7 q8 → (yK Y9 v0 = 12 ∧ (∀ M12 : Mm, M12 = sR M10 v0 (m1 (mR M10 v0) 13 (some q8)) → (∀ q13 : Nat, yK Y9 q13 = 0 → ∀ Y14 : Ly, Y14 = yNew Y9 q13 101 1000 → ∀ M15 : Mm, M15 = mZ M12 q13 → (yK Y14 v0 = 12 ∧ (∀ M17 : Mm, M17 = sR M15 v0 (m1 (mR M15 v0) 14 (some q13)) → (∀ q18 : Nat, yK Y14 q18 = 0 → ∀ Y19 : Ly, Y19 = yNew Y14 q18 102 1000 → ∀ M20 : Mm, M20 = mZ M17 q18 → (yK Y19 v0 = 12 ∧ (∀ M22 : Mm, M22 = sR M20 v0 (m1 (mR M20 v0) 15 (some q18)) → (∀ q23 : Nat, yK Y19 q23 = 0 → ∀ Y24 : Ly, Y24 = yNew Y19 q23 101 1000 → ∀ M25 : Mm, M25 = mZ M22 q23 → (yK Y24 v0 = 12 ∧ (∀ M27 : Mm, M27 = sR M25 v0 (m1 (mR M25 v0) 16 (some q23)) → (∀ q28 : Nat, yK Y24 q28 = 0 → ∀ Y29 : Ly, Y29 = yNew Y24 q28 101 1000 → ∀ M30 : Mm, M30 = mZ M27 q28 → (yK Y29 v0 = 12 ∧ (∀ M32 : Mm, M32 = sR M30 v0 (m1 (mR M30 v0) 17 (some q28)) → (∀ q33 : Nat, yK Y29 q33 = 0 → ∀ Y34 : Ly, Y34 = yNew Y29 q33 101 4500 → ∀ M35 : Mm, M35 = mZ M32 q33 → (yK Y34 v0 = 12 ∧ (∀ M37 : Mm, M37 = sR M35 v0 (m1 (mR M35 v0) 19 (some q33)) → (∀ q38 : Nat, yK Y34 q38 = 0 → ∀ Y39 : Ly, Y39 = yNew Y34 q38 101 4500 → ∀ M40 : Mm, M40 = mZ M37 q38 → (yK Y39 v0 = 12 ∧ (∀ M42 : Mm, M42 = sR M40 v0 (m1 (mR M40 v0) 20 (some q38)) → (∀ q43 : Nat, yK Y39 q43 = 0 → ∀ Y44 : Ly, Y44 = yNew Y39 q43 101 4500 → ∀ M45 : Mm, M45 = mZ M42 q43 → (yK Y44 v0 = 12 ∧ (∀ M47 : Mm, M47 = sR M45 v0 (m1 (mR M45 v0) 21 (some q43)) → (∀ q48 : Nat, yK Y44 q48 = 0 → ∀ Y49 : Ly, Y49 = yNew Y44 q48 101 4500 → ∀ M50 : Mm, M50 = mZ M47 q48 → (yK Y49 v0 = 12 ∧ (∀ M52 : Mm, M52 = sR M50 v0 (m1 (mR M50 v0) 22 (some q48)) → (∀ q53 : Nat, yK Y49 q53 = 0 → ∀ Y54 : Ly, Y54 = yNew Y49 q53 101 540000 → ∀ M55 : Mm, M55 = mZ M52 q53 → (yK Y54 v0 = 12 ∧ (∀ M57 : Mm, M57 = sR M55 v0 (m1 (mR M55 v0) 23 (some q53)) → (∀ q58 : Nat, yK Y54 q58 = 0 → ∀ Y59 : Ly, Y59 = yNew Y54 q58 101 540000 → ∀ M60 : Mm, M60 = mZ M57 q58 → (yK Y59 v0 = 12 ∧ (∀ M62 : Mm, M62 = sR M60 v0 (m1 (mR M60 v0) 24 (some q58)) → (∀ q63 : Nat, yK Y59 q63 = 0 → ∀ Y64 : Ly, Y64 = yNew Y59 q63 102 9 → ∀ M65 : Mm, M65 = mZ M62 q63 → (yK Y64 v0 = 12 ∧ (∀ M67 : Mm, M67 = sR M65 v0 (m1 (mR M65 v0) 26 (some q63)) → (∀ q68 : Nat, yK Y64 q68 = 0 → ∀ Y69 : Ly, Y69 = yNew Y64 q68 102 9 → ∀ M70 : Mm, M70 = mZ M67 q68 → (yK Y69 v0 = 12 ∧ (∀ M72 : Mm, M72 = sR M70 v0 (m1 (mR M70 v0) 27 (some q68)) → (∀ q73 : Nat, yK Y69 q73 = 0 → ∀ Y74 : Ly, Y74 = yNew Y69 q73 101 9 → ∀ M75 : Mm, M75 = mZ M72 q73 → (yK Y74 v0 = 12 ∧ (∀ M77 : Mm, M77 = sR M75 v0 (m1 (mR M75 v0) 28 (some q73)) → (∀ q78 : Nat, yK Y74 q78 = 0 → ∀ Y79 : Ly, Y79 = yNew Y74 q78 101 540 → ∀ M80 : Mm, M80 = mZ M77 q78 → (yK Y79 v0 = 12 ∧ (∀ M82 : Mm, M82 = sR M80 v0 (m1 (mR M80 v0) 29 (some q78)) → (∀ q83 : Nat, yK Y79 q83 = 0 → ∀ Y84 : Ly, Y84 = yNew Y79 q83 101 540 → ∀ M85 : Mm, M85 = mZ M82 q83 → (yK Y84 v0 = 12 ∧ (∀ M87 : Mm, M87 = sR M85 v0 (m1 (mR M85 v0) 30 (some q83)) → (∀ q88 : Nat, yK Y84 q88 = 0 → ∀ Y89 : Ly, Y89 = yNew Y84 q88 103 256 → ∀ M90 : Mm, M90 = mZ M87 q88 → (yK Y89 v0 = 12 ∧ (∀ M92 : Mm, M92 = sR M90 v0 (m1 (mR M90 v0) 31 (some q88)) → (∀ q93 : Nat, yK Y89 q93 = 0 → ∀ Y94 : Ly, Y94 = yNew Y89 q93 101 32768 → ∀ M95 : Mm, M95 = mZ M92 q93 → (yK Y94 v0 = 12 ∧ (∀ M97 : Mm, M97 = sR M95 v0 (m1 (mR M95 v0) 32 (some q93)) → (∀ q98 : Nat, yK Y94 q98 = 0 → ∀ Y99 : Ly, Y99 = yNew Y94 q98 101 8 → ∀ M100 : Mm, M100 = mZ M97 q98 → (yK Y99 v0 = 12 ∧ (∀ M102 : Mm, M102 = sR M100 v0 (m1 (mR M100 v0) 34 (some q98)) → (∀ q103 : Nat, yK Y99 q103 = 0 → ∀ Y104 : Ly, Y104 = yNew Y99 q103 101 8 → ∀ M105 : Mm, M105 = mZ M102 q103 → (yK Y104 v0 = 12 ∧ (∀ M107 : Mm, M107 = sR M105 v0 (m1 (mR M105 v0) 35 (some q103)) → (∀ q108 : Nat, yK Y104 q108 = 0 → ∀ Y109 : Ly, Y109 = yNew Y104 q108 101 8 → ∀ M110 : Mm, M110 = mZ M107 q108 → (yK Y109 v0 = 12 ∧ (∀ M112 : Mm, M112 = sR M110 v0 (m1 (mR M110 v0) 36 (some q108)) → (∀ q113 : Nat, yK Y109 q113 = 0 → ∀ Y114 : Ly, Y114 = yNew Y109 q113 103 64 → ∀ M115 : Mm, M115 = mZ M112 q113 → (yK Y114 v0 = 12 ∧ (∀ M117 : Mm, M117 = sR M115 v0 (m1 (mR M115 v0) 37 (some q113)) → (∀ q118 : Nat, yK Y114 q118 = 0 → ∀ Y119 : Ly, Y119 = yNew Y114 q118 103 64 → ∀ M120 : Mm, M120 = mZ M117 q118 → (yK Y119 v0 = 12 ∧ (∀ M122 : Mm, M122 = sR M120 v0 (m1 (mR M120 v0) 38 (some q118)) → (∀ q123 : Nat, yK Y119 q123 = 0 → ∀ Y124 : Ly, Y124 = yNew Y119 q123 101 64 → ∀ M125 : Mm, M125 = mZ M122 q123 → (yK Y124 v0 = 12 ∧ (∀ M127 : Mm, M127 = sR M125 v0 (m1 (mR M125 v0) 39 (some q123)) → (∃ b128 : Nat, mR M127 v0 10 = some b128 ∧ (∀ M129 : Mm, M129 = sR M127 v0 (m1 (mR M127 v0) 40 (some b128)) → (∀ q130 : Nat, yK Y124 q130 = 0 → ∀ Y131 : Ly, Y131 = yNew Y124 q130 101 40000 → ∀ M132 : Mm, M132 = mZ M129 q130 → (yK Y131 v0 = 12 ∧ (∀ M134 : Mm, M134 = sR M132 v0 (m1 (mR M132 v0) 54 (some q130)) → (∀ q135 : Nat, yK Y131 q135 = 0 → ∀ Y136 : Ly, Y136 = yNew Y131 q135 101 40000 → ∀ M137 : Mm, M137 = mZ M134 q135 → (yK Y136 v0 = 12 ∧ (∀ M139 : Mm, M139 = sR M137 v0 (m1 (mR M137 v0) 55 (some q135)) → (∀ q140 : Nat, yK Y136 q140 = 0 → ∀ Y141 : Ly, Y141 = yNew Y136 q140 101 40000 → ∀ M142 : Mm, M142 = mZ M139 q140 → (yK Y141 v0 = 12 ∧ (∀ M144 : Mm, M144 = sR M142 v0 (m1 (mR M142 v0) 56 (some q140)) → (∀ q145 : Nat, yK Y141 q145 = 0 → ∀ Y146 : Ly, Y146 = yNew Y141 q145 101 40000 → ∀ M147 : Mm, M147 = mZ M144 q145 → (yK Y146 v0 = 12 ∧ (∀ M149 : Mm, M149 = sR M147 v0 (m1 (mR M147 v0) 57 (some q145)) → (∀ q150 : Nat, yK Y146 q150 = 0 → ∀ Y151 : Ly, Y151 = yNew Y146 q150 101 40000 → ∀ M152 : Mm, M152 = mZ M149 q150 → (yK Y151 v0 = 12 ∧ (∀ M154 : Mm, M154 = sR M152 v0 (m1 (mR M152 v0) 58 (some q150)) → (∀ q155 : Nat, yK Y151 q155 = 0 → ∀ Y156 : Ly, Y156 = yNew Y151 q155 103 40000 → ∀ M157 : Mm, M157 = mZ M154 q155 → (yK Y156 v0 = 12 ∧ (∀ M159 : Mm, M159 = sR M157 v0 (m1 (mR M157 v0) 59 (some q155)) → (∀ q160 : Nat, yK Y156 q160 = 0 → ∀ Y161 : Ly, Y161 = yNew Y156 q160 101 4096 → ∀ M162 : Mm, M162 = mZ M159 q160 → (yK Y161 v0 = 12 ∧ (∀ M164 : Mm, M164 = sR M162 v0 (m1 (mR M162 v0) 60 (some q160)) → (∀ q165 : Nat, yK Y161 q165 = 0 → ∀ Y166 : Ly, Y166 = yNew Y161 q165 101 40000 → ∀ M167 : Mm, M167 = mZ M164 q165 → (yK Y166 v0 = 12 ∧ (∀ M169 : Mm, M169 = sR M167 v0 (m1 (mR M167 v0) 61 (some q165)) → (∀ q170 : Nat, yK Y166 q170 = 0 → ∀ Y171 : Ly, Y171 = yNew Y166 q170 101 4500 → ∀ M172 : Mm, M172 = mZ M169 q170 → (yK Y171 v0 = 12 ∧ (∀ M174 : Mm, M174 = sR M172 v0 (m1 (mR M172 v0) 62 (some q170)) → (∀ q175 : Nat, yK Y171 q175 = 0 → ∀ Y176 : Ly, Y176 = yNew Y171 q175 101 4500 → ∀ M177 : Mm, M177 = mZ M174 q175 → (yK Y176 v0 = 12 ∧ (∀ M179 : Mm, M179 = sR M177 v0 (m1 (mR M177 v0) 63 (some q175)) → (∀ q180 : Nat, yK Y176 q180 = 0 → ∀ Y181 : Ly, Y181 = yNew Y176 q180 101 60 → ∀ M182 : Mm, M182 = mZ M179 q180 → (yK Y181 v0 = 12 ∧ (∀ M184 : Mm, M184 = sR M182 v0 (m1 (mR M182 v0) 65 (some q180)) → (∀ q185 : Nat, yK Y181 q185 = 0 → ∀ Y186 : Ly, Y186 = yNew Y181 q185 101 60 → ∀ M187 : Mm, M187 = mZ M184 q185 → (yK Y186 v0 = 12 ∧ (∀ M189 : Mm, M189 = sR M187 v0 (m1 (mR M187 v0) 66 (some q185)) → (∀ q190 : Nat, yK Y186 q190 = 0 → ∀ Y191 : Ly, Y191 = yNew Y186 q190 101 78 → ∀ M192 : Mm, M192 = mZ M189 q190 → (yK Y191 v0 = 12 ∧ (∀ M194 : Mm, M194 = sR M192 v0 (m1 (mR M192 v0) 67 (some q190)) → ((1 ≤ v1 → ((v1 ≤ 8 → (f_X12_init_359 Y191 v0 v2 v3 Kn M194 v1)) ∧ (¬ (v1 ≤ 8) → (f_X12_init_359 Y191 v0 v2 v3 Kn M194 8)))) ∧ (¬ (1 ≤ v1) → (f_X12_init_359 Y191 v0 v2 v3 Kn M194 1))))))))))))))))))))))))))))))))))))))))))))))))))))))))))))))))))))))))))))))))))))))))))))))))))))))))))))))))))))))))
set_option maxHeartbeats 4000000 in
set_option maxRecDepth 100000 in
theorem m_X12_init (l : Launch) (D : va_G) (cy : Cy) (tq sz : Nat) (Y : Ly) (v0 : Nat) (v1 : Int32) (v2 : Int32) (v3 : Int32) (M : Mm) (Kn : Ly → Mm → Prop) : Met l yX12_init (Cond.code yX12_init cX12_init 4 none :: TT) rm_X12_init (PcG D cy tq [.ref v0, .int v1, .int v2, .int v3] sz Y M (f_X12_init Y v0 v1 v2 v3 M Kn)) (QA D cy (Am Y sz) Kn) 38 1447025 (Am Y sz) := by
  refine Met.ofW (cc := cX12_init) (maxL := 4) (ret := none) (by decide) rfl ?_
  intro p e s m args below meth c s₁ B hml hv
  obtain ⟨hargs, hsz, hW, hK, hC, hf⟩ := hv
  subst hsz
  have hx := B.exec
  have hb := B.bytes
  have hr := B.returns
  have hts : ∀ w ∈ TT, w.before args s = true := fun w h => atoms_spec (ws := Cond.code yX12_init cX12_init 4 none :: TT) B.pre w (List.mem_cons_of_mem _ h)
  have hown : s.vm.findClass RX12 = some m.cls := findClass_of_methodNamed B.named
  have hlocks := B.notSynchronized
  have hin : meth.name = "<init>" := (name_of_methodNamed B.named B.method).1
  replace hW := Wd_self (sz := s.heap.size) hW
  generalize hAe : Am Y s.heap.size = A at hW hC ⊢
  have hA : ∀ q : Nat, s.heap.size ≤ q → A q := fun q h => by rw [← hAe]; exact Or.inr h
  clear hAe
  have hS : va_S A s.heap s.heap [] := va_S.rf
  obtain ⟨ls, hE, hl⟩ := gm_entry m [.ref v0, .int v1, .int v2, .int v3] (n := 4) hargs (Nat.le_of_ble_eq_true rfl)
  rw [hE]
  have hl : lv_has ls 4 [(0, .ref v0), (1, .int v1), (2, .int v2), (3, .int v3)] := hl
  show W p l e rm_X12_init s m args below meth c s.heap [] 0 0 (MQ below (QA D cy A Kn) args s 38 1447025 A) (F0 m 0 ls [])
  unfold f_X12_init at hf
  refine lv_aload_n hx hb dX12_init_0 rfl (lv_at hl 0 rfl) ?_
  refine W.objInit hx hb hown (hts _ kw_1312) (hts _ kw_36) (hts _ kw_37) rfl (by rw [hml]; exact hl.1) rfl dX12_init_1 (Nat.le_of_ble_eq_true rfl) (Nat.le_of_ble_eq_true rfl) ?_
  refine W.eq (g2 := F0 m 4 ls []) rfl ?_
  refine lv_aload_n hx hb dX12_init_4 rfl (lv_at hl 0 rfl) ?_
  refine lv_iconst (v := -1) hx hb dX12_init_5 (by decide +kernel) ?_
  obtain ⟨k1, hf⟩ := hf
  refine gm_putI (C := RX12) (T := TX12) (N := 68) (j := 7) hx hb hts inT_12 tyX12 tyX12_ok nmX12 hown hK hW hS k1 (by decide) rfl (by decide) rfl (hts _ kw_1323) rfl rfl rfl rfl dX12_init_6 (fun H locs M2 eM2 hW hS => ?_)
  replace hf := hf M2 eM2
  refine lv_aload_n hx hb dX12_init_9 rfl (lv_at hl 0 rfl) ?_
  refine lv_sipush (v := 16384) hx hb dX12_init_10 (by decide +kernel) ?_
  refine gm_newi hx hb (hts _ kw_129) hK hW hS hA (n := 16384) 16384 (by decide +kernel) (by decide +kernel) (Nat.le_refl _) (by decide) (by show _ ≤ 38; omega) (by show _ ≤ 1447025; omega) dX12_init_13 (fun q3 H Y4 M5 h0q3 eY4 eM5 hW hS => ?_)
  replace hf := hf q3 h0q3 Y4 eY4 M5 eM5
  obtain ⟨k6, hf⟩ := hf
  refine gm_putFR (C := RX12) (T := TX12) (N := 68) (j := 10) hx hb hts inT_12 tyX12 tyX12_ok nmX12 hown hK hW hS k6 (by decide) rfl (by decide) rfl (hts _ kw_1326) rfl rfl hin rfl rfl rfl dX12_init_15 (fun H locs M7 eM7 hW hS => ?_)
  replace hf := hf M7 eM7
  refine lv_aload_n hx hb dX12_init_18 rfl (lv_at hl 0 rfl) ?_
  refine lv_sipush (v := 1000) hx hb dX12_init_19 (by decide +kernel) ?_
  refine gm_newl hx hb (hts _ kw_1452) hK hW hS hA (n := 1000) 1000 (by decide +kernel) (by decide +kernel) (Nat.le_refl _) (by decide) (by show _ ≤ 38; omega) (by show _ ≤ 1447025; omega) dX12_init_22 (fun q8 H Y9 M10 h0q8 eY9 eM10 hW hS => ?_)
  replace hf := hf q8 h0q8 Y9 eY9 M10 eM10
  obtain ⟨k11, hf⟩ := hf
  refine gm_putFR (C := RX12) (T := TX12) (N := 68) (j := 13) hx hb hts inT_12 tyX12 tyX12_ok nmX12 hown hK hW hS k11 (by decide) rfl (by decide) rfl (hts _ kw_1329) rfl rfl hin rfl rfl rfl dX12_init_24 (fun H locs M12 eM12 hW hS => ?_)
  replace hf := hf M12 eM12
  refine lv_aload_n hx hb dX12_init_27 rfl (lv_at hl 0 rfl) ?_
  refine lv_sipush (v := 1000) hx hb dX12_init_28 (by decide +kernel) ?_
  refine gm_newi hx hb (hts _ kw_129) hK hW hS hA (n := 1000) 1000 (by decide +kernel) (by decide +kernel) (Nat.le_refl _) (by decide) (by show _ ≤ 38; omega) (by show _ ≤ 1447025; omega) dX12_init_31 (fun q13 H Y14 M15 h0q13 eY14 eM15 hW hS => ?_)
  replace hf := hf q13 h0q13 Y14 eY14 M15 eM15
  obtain ⟨k16, hf⟩ := hf
  refine gm_putFR (C := RX12) (T := TX12) (N := 68) (j := 14) hx hb hts inT_12 tyX12 tyX12_ok nmX12 hown hK hW hS k16 (by decide) rfl (by decide) rfl (hts _ kw_1330) rfl rfl hin rfl rfl rfl dX12_init_33 (fun H locs M17 eM17 hW hS => ?_)
  replace hf := hf M17 eM17
  refine lv_aload_n hx hb dX12_init_36 rfl (lv_at hl 0 rfl) ?_
  refine lv_sipush (v := 1000) hx hb dX12_init_37 (by decide +kernel) ?_
  refine gm_newl hx hb (hts _ kw_1452) hK hW hS hA (n := 1000) 1000 (by decide +kernel) (by decide +kernel) (Nat.le_refl _) (by decide) (by show _ ≤ 38; omega) (by show _ ≤ 1447025; omega) dX12_init_40 (fun q18 H Y19 M20 h0q18 eY19 eM20 hW hS => ?_)
  replace hf := hf q18 h0q18 Y19 eY19 M20 eM20
  obtain ⟨k21, hf⟩ := hf
  refine gm_putFR (C := RX12) (T := TX12) (N := 68) (j := 15) hx hb hts inT_12 tyX12 tyX12_ok nmX12 hown hK hW hS k21 (by decide) rfl (by decide) rfl (hts _ kw_1331) rfl rfl hin rfl rfl rfl dX12_init_42 (fun H locs M22 eM22 hW hS => ?_)
  replace hf := hf M22 eM22
  refine lv_aload_n hx hb dX12_init_45 rfl (lv_at hl 0 rfl) ?_
  refine lv_sipush (v := 1000) hx hb dX12_init_46 (by decide +kernel) ?_
  refine gm_newi hx hb (hts _ kw_129) hK hW hS hA (n := 1000) 1000 (by decide +kernel) (by decide +kernel) (Nat.le_refl _) (by decide) (by show _ ≤ 38; omega) (by show _ ≤ 1447025; omega) dX12_init_49 (fun q23 H Y24 M25 h0q23 eY24 eM25 hW hS => ?_)
  replace hf := hf q23 h0q23 Y24 eY24 M25 eM25
  obtain ⟨k26, hf⟩ := hf
  refine gm_putFR (C := RX12) (T := TX12) (N := 68) (j := 16) hx hb hts inT_12 tyX12 tyX12_ok nmX12 hown hK hW hS k26 (by decide) rfl (by decide) rfl (hts _ kw_1332) rfl rfl hin rfl rfl rfl dX12_init_51 (fun H locs M27 eM27 hW hS => ?_)
  replace hf := hf M27 eM27
  refine lv_aload_n hx hb dX12_init_54 rfl (lv_at hl 0 rfl) ?_
  refine lv_sipush (v := 1000) hx hb dX12_init_55 (by decide +kernel) ?_
  refine gm_newi hx hb (hts _ kw_129) hK hW hS hA (n := 1000) 1000 (by decide +kernel) (by decide +kernel) (Nat.le_refl _) (by decide) (by show _ ≤ 38; omega) (by show _ ≤ 1447025; omega) dX12_init_58 (fun q28 H Y29 M30 h0q28 eY29 eM30 hW hS => ?_)
  replace hf := hf q28 h0q28 Y29 eY29 M30 eM30
  obtain ⟨k31, hf⟩ := hf
  refine gm_putFR (C := RX12) (T := TX12) (N := 68) (j := 17) hx hb hts inT_12 tyX12 tyX12_ok nmX12 hown hK hW hS k31 (by decide) rfl (by decide) rfl (hts _ kw_1333) rfl rfl hin rfl rfl rfl dX12_init_60 (fun H locs M32 eM32 hW hS => ?_)
  replace hf := hf M32 eM32
  refine lv_aload_n hx hb dX12_init_63 rfl (lv_at hl 0 rfl) ?_
  refine lv_sipush (v := 4500) hx hb dX12_init_64 (by decide +kernel) ?_
  refine gm_newi hx hb (hts _ kw_129) hK hW hS hA (n := 4500) 4500 (by decide +kernel) (by decide +kernel) (Nat.le_refl _) (by decide) (by show _ ≤ 38; omega) (by show _ ≤ 1447025; omega) dX12_init_67 (fun q33 H Y34 M35 h0q33 eY34 eM35 hW hS => ?_)
  replace hf := hf q33 h0q33 Y34 eY34 M35 eM35
  obtain ⟨k36, hf⟩ := hf
  refine gm_putFR (C := RX12) (T := TX12) (N := 68) (j := 19) hx hb hts inT_12 tyX12 tyX12_ok nmX12 hown hK hW hS k36 (by decide) rfl (by decide) rfl (hts _ kw_1335) rfl rfl hin rfl rfl rfl dX12_init_69 (fun H locs M37 eM37 hW hS => ?_)
  replace hf := hf M37 eM37
  refine lv_aload_n hx hb dX12_init_72 rfl (lv_at hl 0 rfl) ?_
  refine lv_sipush (v := 4500) hx hb dX12_init_73 (by decide +kernel) ?_
  refine gm_newi hx hb (hts _ kw_129) hK hW hS hA (n := 4500) 4500 (by decide +kernel) (by decide +kernel) (Nat.le_refl _) (by decide) (by show _ ≤ 38; omega) (by show _ ≤ 1447025; omega) dX12_init_76 (fun q38 H Y39 M40 h0q38 eY39 eM40 hW hS => ?_)
  replace hf := hf q38 h0q38 Y39 eY39 M40 eM40
  obtain ⟨k41, hf⟩ := hf
  refine gm_putFR (C := RX12) (T := TX12) (N := 68) (j := 20) hx hb hts inT_12 tyX12 tyX12_ok nmX12 hown hK hW hS k41 (by decide) rfl (by decide) rfl (hts _ kw_1336) rfl rfl hin rfl rfl rfl dX12_init_78 (fun H locs M42 eM42 hW hS => ?_)
  replace hf := hf M42 eM42
  refine lv_aload_n hx hb dX12_init_81 rfl (lv_at hl 0 rfl) ?_
  refine lv_sipush (v := 4500) hx hb dX12_init_82 (by decide +kernel) ?_
  refine gm_newi hx hb (hts _ kw_129) hK hW hS hA (n := 4500) 4500 (by decide +kernel) (by decide +kernel) (Nat.le_refl _) (by decide) (by show _ ≤ 38; omega) (by show _ ≤ 1447025; omega) dX12_init_85 (fun q43 H Y44 M45 h0q43 eY44 eM45 hW hS => ?_)
  replace hf := hf q43 h0q43 Y44 eY44 M45 eM45
  obtain ⟨k46, hf⟩ := hf
  refine gm_putFR (C := RX12) (T := TX12) (N := 68) (j := 21) hx hb hts inT_12 tyX12 tyX12_ok nmX12 hown hK hW hS k46 (by decide) rfl (by decide) rfl (hts _ kw_1337) rfl rfl hin rfl rfl rfl dX12_init_87 (fun H locs M47 eM47 hW hS => ?_)
  replace hf := hf M47 eM47
  refine lv_aload_n hx hb dX12_init_90 rfl (lv_at hl 0 rfl) ?_
  refine lv_sipush (v := 4500) hx hb dX12_init_91 (by decide +kernel) ?_
  refine gm_newi hx hb (hts _ kw_129) hK hW hS hA (n := 4500) 4500 (by decide +kernel) (by decide +kernel) (Nat.le_refl _) (by decide) (by show _ ≤ 38; omega) (by show _ ≤ 1447025; omega) dX12_init_94 (fun q48 H Y49 M50 h0q48 eY49 eM50 hW hS => ?_)
  replace hf := hf q48 h0q48 Y49 eY49 M50 eM50
  obtain ⟨k51, hf⟩ := hf
  refine gm_putFR (C := RX12) (T := TX12) (N := 68) (j := 22) hx hb hts inT_12 tyX12 tyX12_ok nmX12 hown hK hW hS k51 (by decide) rfl (by decide) rfl (hts _ kw_1338) rfl rfl hin rfl rfl rfl dX12_init_96 (fun H locs M52 eM52 hW hS => ?_)
  replace hf := hf M52 eM52
  refine lv_aload_n hx hb dX12_init_99 rfl (lv_at hl 0 rfl) ?_
  refine lv_ldc (v := 540000) hx hb hown (hts _ kw_1313) dX12_init_100 ?_
  refine gm_newi hx hb (hts _ kw_129) hK hW hS hA (n := 540000) 540000 (by decide +kernel) (by decide +kernel) (Nat.le_refl _) (by decide) (by show _ ≤ 38; omega) (by show _ ≤ 1447025; omega) dX12_init_102 (fun q53 H Y54 M55 h0q53 eY54 eM55 hW hS => ?_)
  replace hf := hf q53 h0q53 Y54 eY54 M55 eM55
  obtain ⟨k56, hf⟩ := hf
  refine gm_putR (C := RX12) (T := TX12) (N := 68) (j := 23) hx hb hts inT_12 tyX12 tyX12_ok nmX12 hown hK hW hS k56 (by decide) rfl (by decide) rfl (hts _ kw_1339) rfl rfl rfl rfl dX12_init_104 (fun H locs M57 eM57 hW hS => ?_)
  replace hf := hf M57 eM57
  refine lv_aload_n hx hb dX12_init_107 rfl (lv_at hl 0 rfl) ?_
  refine lv_ldc (v := 540000) hx hb hown (hts _ kw_1313) dX12_init_108 ?_
  refine gm_newi hx hb (hts _ kw_129) hK hW hS hA (n := 540000) 540000 (by decide +kernel) (by decide +kernel) (Nat.le_refl _) (by decide) (by show _ ≤ 38; omega) (by show _ ≤ 1447025; omega) dX12_init_110 (fun q58 H Y59 M60 h0q58 eY59 eM60 hW hS => ?_)
  replace hf := hf q58 h0q58 Y59 eY59 M60 eM60
  obtain ⟨k61, hf⟩ := hf
  refine gm_putR (C := RX12) (T := TX12) (N := 68) (j := 24) hx hb hts inT_12 tyX12 tyX12_ok nmX12 hown hK hW hS k61 (by decide) rfl (by decide) rfl (hts _ kw_1340) rfl rfl rfl rfl dX12_init_112 (fun H locs M62 eM62 hW hS => ?_)
  replace hf := hf M62 eM62
  refine lv_aload_n hx hb dX12_init_115 rfl (lv_at hl 0 rfl) ?_
  refine lv_bipush (v := 9) hx hb dX12_init_116 (by decide +kernel) ?_
  refine gm_newl hx hb (hts _ kw_1452) hK hW hS hA (n := 9) 9 (by decide +kernel) (by decide +kernel) (Nat.le_refl _) (by decide) (by show _ ≤ 38; omega) (by show _ ≤ 1447025; omega) dX12_init_118 (fun q63 H Y64 M65 h0q63 eY64 eM65 hW hS => ?_)
  replace hf := hf q63 h0q63 Y64 eY64 M65 eM65
  obtain ⟨k66, hf⟩ := hf
  refine gm_putFR (C := RX12) (T := TX12) (N := 68) (j := 26) hx hb hts inT_12 tyX12 tyX12_ok nmX12 hown hK hW hS k66 (by decide) rfl (by decide) rfl (hts _ kw_1342) rfl rfl hin rfl rfl rfl dX12_init_120 (fun H locs M67 eM67 hW hS => ?_)
  replace hf := hf M67 eM67
  refine lv_aload_n hx hb dX12_init_123 rfl (lv_at hl 0 rfl) ?_
  refine lv_bipush (v := 9) hx hb dX12_init_124 (by decide +kernel) ?_
  refine gm_newl hx hb (hts _ kw_1452) hK hW hS hA (n := 9) 9 (by decide +kernel) (by decide +kernel) (Nat.le_refl _) (by decide) (by show _ ≤ 38; omega) (by show _ ≤ 1447025; omega) dX12_init_126 (fun q68 H Y69 M70 h0q68 eY69 eM70 hW hS => ?_)
  replace hf := hf q68 h0q68 Y69 eY69 M70 eM70
  obtain ⟨k71, hf⟩ := hf
  refine gm_putFR (C := RX12) (T := TX12) (N := 68) (j := 27) hx hb hts inT_12 tyX12 tyX12_ok nmX12 hown hK hW hS k71 (by decide) rfl (by decide) rfl (hts _ kw_1343) rfl rfl hin rfl rfl rfl dX12_init_128 (fun H locs M72 eM72 hW hS => ?_)
  replace hf := hf M72 eM72
  refine lv_aload_n hx hb dX12_init_131 rfl (lv_at hl 0 rfl) ?_
  refine lv_bipush (v := 9) hx hb dX12_init_132 (by decide +kernel) ?_
  refine gm_newi hx hb (hts _ kw_129) hK hW hS hA (n := 9) 9 (by decide +kernel) (by decide +kernel) (Nat.le_refl _) (by decide) (by show _ ≤ 38; omega) (by show _ ≤ 1447025; omega) dX12_init_134 (fun q73 H Y74 M75 h0q73 eY74 eM75 hW hS => ?_)
  replace hf := hf q73 h0q73 Y74 eY74 M75 eM75
  obtain ⟨k76, hf⟩ := hf
  refine gm_putFR (C := RX12) (T := TX12) (N := 68) (j := 28) hx hb hts inT_12 tyX12 tyX12_ok nmX12 hown hK hW hS k76 (by decide) rfl (by decide) rfl (hts _ kw_1344) rfl rfl hin rfl rfl rfl dX12_init_136 (fun H locs M77 eM77 hW hS => ?_)
  replace hf := hf M77 eM77
  refine lv_aload_n hx hb dX12_init_139 rfl (lv_at hl 0 rfl) ?_
  refine lv_sipush (v := 540) hx hb dX12_init_140 (by decide +kernel) ?_
  refine gm_newi hx hb (hts _ kw_129) hK hW hS hA (n := 540) 540 (by decide +kernel) (by decide +kernel) (Nat.le_refl _) (by decide) (by show _ ≤ 38; omega) (by show _ ≤ 1447025; omega) dX12_init_143 (fun q78 H Y79 M80 h0q78 eY79 eM80 hW hS => ?_)
  replace hf := hf q78 h0q78 Y79 eY79 M80 eM80
  obtain ⟨k81, hf⟩ := hf
  refine gm_putFR (C := RX12) (T := TX12) (N := 68) (j := 29) hx hb hts inT_12 tyX12 tyX12_ok nmX12 hown hK hW hS k81 (by decide) rfl (by decide) rfl (hts _ kw_1345) rfl rfl hin rfl rfl rfl dX12_init_145 (fun H locs M82 eM82 hW hS => ?_)
  replace hf := hf M82 eM82
  refine lv_aload_n hx hb dX12_init_148 rfl (lv_at hl 0 rfl) ?_
  refine lv_sipush (v := 540) hx hb dX12_init_149 (by decide +kernel) ?_
  refine gm_newi hx hb (hts _ kw_129) hK hW hS hA (n := 540) 540 (by decide +kernel) (by decide +kernel) (Nat.le_refl _) (by decide) (by show _ ≤ 38; omega) (by show _ ≤ 1447025; omega) dX12_init_152 (fun q83 H Y84 M85 h0q83 eY84 eM85 hW hS => ?_)
  replace hf := hf q83 h0q83 Y84 eY84 M85 eM85
  obtain ⟨k86, hf⟩ := hf
  refine gm_putFR (C := RX12) (T := TX12) (N := 68) (j := 30) hx hb hts inT_12 tyX12 tyX12_ok nmX12 hown hK hW hS k86 (by decide) rfl (by decide) rfl (hts _ kw_1346) rfl rfl hin rfl rfl rfl dX12_init_154 (fun H locs M87 eM87 hW hS => ?_)
  replace hf := hf M87 eM87
  refine lv_aload_n hx hb dX12_init_157 rfl (lv_at hl 0 rfl) ?_
  refine lv_sipush (v := 256) hx hb dX12_init_158 (by decide +kernel) ?_
  refine gm_newz hx hb (hts _ kw_1453) hK hW hS hA (n := 256) 256 (by decide +kernel) (by decide +kernel) (Nat.le_refl _) (by decide) (by show _ ≤ 38; omega) (by show _ ≤ 1447025; omega) dX12_init_161 (fun q88 H Y89 M90 h0q88 eY89 eM90 hW hS => ?_)
  replace hf := hf q88 h0q88 Y89 eY89 M90 eM90
  obtain ⟨k91, hf⟩ := hf
  refine gm_putFR (C := RX12) (T := TX12) (N := 68) (j := 31) hx hb hts inT_12 tyX12 tyX12_ok nmX12 hown hK hW hS k91 (by decide) rfl (by decide) rfl (hts _ kw_1347) rfl rfl hin rfl rfl rfl dX12_init_163 (fun H locs M92 eM92 hW hS => ?_)
  replace hf := hf M92 eM92
  refine lv_aload_n hx hb dX12_init_166 rfl (lv_at hl 0 rfl) ?_
  refine lv_ldc (v := 32768) hx hb hown (hts _ kw_1314) dX12_init_167 ?_
  refine gm_newi hx hb (hts _ kw_129) hK hW hS hA (n := 32768) 32768 (by decide +kernel) (by decide +kernel) (Nat.le_refl _) (by decide) (by show _ ≤ 38; omega) (by show _ ≤ 1447025; omega) dX12_init_169 (fun q93 H Y94 M95 h0q93 eY94 eM95 hW hS => ?_)
  replace hf := hf q93 h0q93 Y94 eY94 M95 eM95
  obtain ⟨k96, hf⟩ := hf
  refine gm_putFR (C := RX12) (T := TX12) (N := 68) (j := 32) hx hb hts inT_12 tyX12 tyX12_ok nmX12 hown hK hW hS k96 (by decide) rfl (by decide) rfl (hts _ kw_1348) rfl rfl hin rfl rfl rfl dX12_init_171 (fun H locs M97 eM97 hW hS => ?_)
  replace hf := hf M97 eM97
  refine lv_aload_n hx hb dX12_init_174 rfl (lv_at hl 0 rfl) ?_
  refine lv_bipush (v := 8) hx hb dX12_init_175 (by decide +kernel) ?_
  refine gm_newi hx hb (hts _ kw_129) hK hW hS hA (n := 8) 8 (by decide +kernel) (by decide +kernel) (Nat.le_refl _) (by decide) (by show _ ≤ 38; omega) (by show _ ≤ 1447025; omega) dX12_init_177 (fun q98 H Y99 M100 h0q98 eY99 eM100 hW hS => ?_)
  replace hf := hf q98 h0q98 Y99 eY99 M100 eM100
  obtain ⟨k101, hf⟩ := hf
  refine gm_putFR (C := RX12) (T := TX12) (N := 68) (j := 34) hx hb hts inT_12 tyX12 tyX12_ok nmX12 hown hK hW hS k101 (by decide) rfl (by decide) rfl (hts _ kw_1350) rfl rfl hin rfl rfl rfl dX12_init_179 (fun H locs M102 eM102 hW hS => ?_)
  replace hf := hf M102 eM102
  refine lv_aload_n hx hb dX12_init_182 rfl (lv_at hl 0 rfl) ?_
  refine lv_bipush (v := 8) hx hb dX12_init_183 (by decide +kernel) ?_
  refine gm_newi hx hb (hts _ kw_129) hK hW hS hA (n := 8) 8 (by decide +kernel) (by decide +kernel) (Nat.le_refl _) (by decide) (by show _ ≤ 38; omega) (by show _ ≤ 1447025; omega) dX12_init_185 (fun q103 H Y104 M105 h0q103 eY104 eM105 hW hS => ?_)
  replace hf := hf q103 h0q103 Y104 eY104 M105 eM105
  obtain ⟨k106, hf⟩ := hf
  refine gm_putFR (C := RX12) (T := TX12) (N := 68) (j := 35) hx hb hts inT_12 tyX12 tyX12_ok nmX12 hown hK hW hS k106 (by decide) rfl (by decide) rfl (hts _ kw_1351) rfl rfl hin rfl rfl rfl dX12_init_187 (fun H locs M107 eM107 hW hS => ?_)
  replace hf := hf M107 eM107
  refine lv_aload_n hx hb dX12_init_190 rfl (lv_at hl 0 rfl) ?_
  refine lv_bipush (v := 8) hx hb dX12_init_191 (by decide +kernel) ?_
  refine gm_newi hx hb (hts _ kw_129) hK hW hS hA (n := 8) 8 (by decide +kernel) (by decide +kernel) (Nat.le_refl _) (by decide) (by show _ ≤ 38; omega) (by show _ ≤ 1447025; omega) dX12_init_193 (fun q108 H Y109 M110 h0q108 eY109 eM110 hW hS => ?_)
  replace hf := hf q108 h0q108 Y109 eY109 M110 eM110
  obtain ⟨k111, hf⟩ := hf
  refine gm_putFR (C := RX12) (T := TX12) (N := 68) (j := 36) hx hb hts inT_12 tyX12 tyX12_ok nmX12 hown hK hW hS k111 (by decide) rfl (by decide) rfl (hts _ kw_1352) rfl rfl hin rfl rfl rfl dX12_init_195 (fun H locs M112 eM112 hW hS => ?_)
  replace hf := hf M112 eM112
  refine lv_aload_n hx hb dX12_init_198 rfl (lv_at hl 0 rfl) ?_
  refine lv_bipush (v := 64) hx hb dX12_init_199 (by decide +kernel) ?_
  refine gm_newz hx hb (hts _ kw_1453) hK hW hS hA (n := 64) 64 (by decide +kernel) (by decide +kernel) (Nat.le_refl _) (by decide) (by show _ ≤ 38; omega) (by show _ ≤ 1447025; omega) dX12_init_201 (fun q113 H Y114 M115 h0q113 eY114 eM115 hW hS => ?_)
  replace hf := hf q113 h0q113 Y114 eY114 M115 eM115
  obtain ⟨k116, hf⟩ := hf
  refine gm_putFR (C := RX12) (T := TX12) (N := 68) (j := 37) hx hb hts inT_12 tyX12 tyX12_ok nmX12 hown hK hW hS k116 (by decide) rfl (by decide) rfl (hts _ kw_1353) rfl rfl hin rfl rfl rfl dX12_init_203 (fun H locs M117 eM117 hW hS => ?_)
  replace hf := hf M117 eM117
  refine lv_aload_n hx hb dX12_init_206 rfl (lv_at hl 0 rfl) ?_
  refine lv_bipush (v := 64) hx hb dX12_init_207 (by decide +kernel) ?_
  refine gm_newz hx hb (hts _ kw_1453) hK hW hS hA (n := 64) 64 (by decide +kernel) (by decide +kernel) (Nat.le_refl _) (by decide) (by show _ ≤ 38; omega) (by show _ ≤ 1447025; omega) dX12_init_209 (fun q118 H Y119 M120 h0q118 eY119 eM120 hW hS => ?_)
  replace hf := hf q118 h0q118 Y119 eY119 M120 eM120
  obtain ⟨k121, hf⟩ := hf
  refine gm_putFR (C := RX12) (T := TX12) (N := 68) (j := 38) hx hb hts inT_12 tyX12 tyX12_ok nmX12 hown hK hW hS k121 (by decide) rfl (by decide) rfl (hts _ kw_1354) rfl rfl hin rfl rfl rfl dX12_init_211 (fun H locs M122 eM122 hW hS => ?_)
  replace hf := hf M122 eM122
  refine lv_aload_n hx hb dX12_init_214 rfl (lv_at hl 0 rfl) ?_
  refine lv_bipush (v := 64) hx hb dX12_init_215 (by decide +kernel) ?_
  refine gm_newi hx hb (hts _ kw_129) hK hW hS hA (n := 64) 64 (by decide +kernel) (by decide +kernel) (Nat.le_refl _) (by decide) (by show _ ≤ 38; omega) (by show _ ≤ 1447025; omega) dX12_init_217 (fun q123 H Y124 M125 h0q123 eY124 eM125 hW hS => ?_)
  replace hf := hf q123 h0q123 Y124 eY124 M125 eM125
  obtain ⟨k126, hf⟩ := hf
  refine gm_putFR (C := RX12) (T := TX12) (N := 68) (j := 39) hx hb hts inT_12 tyX12 tyX12_ok nmX12 hown hK hW hS k126 (by decide) rfl (by decide) rfl (hts _ kw_1355) rfl rfl hin rfl rfl rfl dX12_init_219 (fun H locs M127 eM127 hW hS => ?_)
  replace hf := hf M127 eM127
  refine lv_aload_n hx hb dX12_init_222 rfl (lv_at hl 0 rfl) ?_
  refine lv_aload_n hx hb dX12_init_223 rfl (lv_at hl 0 rfl) ?_
  obtain ⟨b128, hb128, hf⟩ := hf
  refine gm_getR (C := RX12) (T := TX12) (N := 68) (j := 10) hx hb hts inT_12 hown hK hW k126 (by decide) rfl (by decide) rfl (hts _ kw_1326) rfl dX12_init_224 hb128 ?_
  refine gm_putR (C := RX12) (T := TX12) (N := 68) (j := 40) hx hb hts inT_12 tyX12 tyX12_ok nmX12 hown hK hW hS k126 (by decide) rfl (by decide) rfl (hts _ kw_1356) rfl rfl rfl rfl dX12_init_227 (fun H locs M129 eM129 hW hS => ?_)
  replace hf := hf M129 eM129
  refine lv_aload_n hx hb dX12_init_230 rfl (lv_at hl 0 rfl) ?_
  refine lv_ldc (v := 40000) hx hb hown (hts _ kw_1315) dX12_init_231 ?_
  refine gm_newi hx hb (hts _ kw_129) hK hW hS hA (n := 40000) 40000 (by decide +kernel) (by decide +kernel) (Nat.le_refl _) (by decide) (by show _ ≤ 38; omega) (by show _ ≤ 1447025; omega) dX12_init_233 (fun q130 H Y131 M132 h0q130 eY131 eM132 hW hS => ?_)
  replace hf := hf q130 h0q130 Y131 eY131 M132 eM132
  obtain ⟨k133, hf⟩ := hf
  refine gm_putFR (C := RX12) (T := TX12) (N := 68) (j := 54) hx hb hts inT_12 tyX12 tyX12_ok nmX12 hown hK hW hS k133 (by decide) rfl (by decide) rfl (hts _ kw_1370) rfl rfl hin rfl rfl rfl dX12_init_235 (fun H locs M134 eM134 hW hS => ?_)
  replace hf := hf M134 eM134
  refine lv_aload_n hx hb dX12_init_238 rfl (lv_at hl 0 rfl) ?_
  refine lv_ldc (v := 40000) hx hb hown (hts _ kw_1315) dX12_init_239 ?_
  refine gm_newi hx hb (hts _ kw_129) hK hW hS hA (n := 40000) 40000 (by decide +kernel) (by decide +kernel) (Nat.le_refl _) (by decide) (by show _ ≤ 38; omega) (by show _ ≤ 1447025; omega) dX12_init_241 (fun q135 H Y136 M137 h0q135 eY136 eM137 hW hS => ?_)
  replace hf := hf q135 h0q135 Y136 eY136 M137 eM137
  obtain ⟨k138, hf⟩ := hf
  refine gm_putFR (C := RX12) (T := TX12) (N := 68) (j := 55) hx hb hts inT_12 tyX12 tyX12_ok nmX12 hown hK hW hS k138 (by decide) rfl (by decide) rfl (hts _ kw_1371) rfl rfl hin rfl rfl rfl dX12_init_243 (fun H locs M139 eM139 hW hS => ?_)
  replace hf := hf M139 eM139
  refine lv_aload_n hx hb dX12_init_246 rfl (lv_at hl 0 rfl) ?_
  refine lv_ldc (v := 40000) hx hb hown (hts _ kw_1315) dX12_init_247 ?_
  refine gm_newi hx hb (hts _ kw_129) hK hW hS hA (n := 40000) 40000 (by decide +kernel) (by decide +kernel) (Nat.le_refl _) (by decide) (by show _ ≤ 38; omega) (by show _ ≤ 1447025; omega) dX12_init_249 (fun q140 H Y141 M142 h0q140 eY141 eM142 hW hS => ?_)
  replace hf := hf q140 h0q140 Y141 eY141 M142 eM142
  obtain ⟨k143, hf⟩ := hf
  refine gm_putFR (C := RX12) (T := TX12) (N := 68) (j := 56) hx hb hts inT_12 tyX12 tyX12_ok nmX12 hown hK hW hS k143 (by decide) rfl (by decide) rfl (hts _ kw_1372) rfl rfl hin rfl rfl rfl dX12_init_251 (fun H locs M144 eM144 hW hS => ?_)
  replace hf := hf M144 eM144
  refine lv_aload_n hx hb dX12_init_254 rfl (lv_at hl 0 rfl) ?_
  refine lv_ldc (v := 40000) hx hb hown (hts _ kw_1315) dX12_init_255 ?_
  refine gm_newi hx hb (hts _ kw_129) hK hW hS hA (n := 40000) 40000 (by decide +kernel) (by decide +kernel) (Nat.le_refl _) (by decide) (by show _ ≤ 38; omega) (by show _ ≤ 1447025; omega) dX12_init_257 (fun q145 H Y146 M147 h0q145 eY146 eM147 hW hS => ?_)
  replace hf := hf q145 h0q145 Y146 eY146 M147 eM147
  obtain ⟨k148, hf⟩ := hf
  refine gm_putFR (C := RX12) (T := TX12) (N := 68) (j := 57) hx hb hts inT_12 tyX12 tyX12_ok nmX12 hown hK hW hS k148 (by decide) rfl (by decide) rfl (hts _ kw_1373) rfl rfl hin rfl rfl rfl dX12_init_259 (fun H locs M149 eM149 hW hS => ?_)
  replace hf := hf M149 eM149
  refine lv_aload_n hx hb dX12_init_262 rfl (lv_at hl 0 rfl) ?_
  refine lv_ldc (v := 40000) hx hb hown (hts _ kw_1315) dX12_init_263 ?_
  refine gm_newi hx hb (hts _ kw_129) hK hW hS hA (n := 40000) 40000 (by decide +kernel) (by decide +kernel) (Nat.le_refl _) (by decide) (by show _ ≤ 38; omega) (by show _ ≤ 1447025; omega) dX12_init_265 (fun q150 H Y151 M152 h0q150 eY151 eM152 hW hS => ?_)
  replace hf := hf q150 h0q150 Y151 eY151 M152 eM152
  obtain ⟨k153, hf⟩ := hf
  refine gm_putFR (C := RX12) (T := TX12) (N := 68) (j := 58) hx hb hts inT_12 tyX12 tyX12_ok nmX12 hown hK hW hS k153 (by decide) rfl (by decide) rfl (hts _ kw_1374) rfl rfl hin rfl rfl rfl dX12_init_267 (fun H locs M154 eM154 hW hS => ?_)
  replace hf := hf M154 eM154
  refine lv_aload_n hx hb dX12_init_270 rfl (lv_at hl 0 rfl) ?_
  refine lv_ldc (v := 40000) hx hb hown (hts _ kw_1315) dX12_init_271 ?_
  refine gm_newz hx hb (hts _ kw_1453) hK hW hS hA (n := 40000) 40000 (by decide +kernel) (by decide +kernel) (Nat.le_refl _) (by decide) (by show _ ≤ 38; omega) (by show _ ≤ 1447025; omega) dX12_init_273 (fun q155 H Y156 M157 h0q155 eY156 eM157 hW hS => ?_)
  replace hf := hf q155 h0q155 Y156 eY156 M157 eM157
  obtain ⟨k158, hf⟩ := hf
  refine gm_putFR (C := RX12) (T := TX12) (N := 68) (j := 59) hx hb hts inT_12 tyX12 tyX12_ok nmX12 hown hK hW hS k158 (by decide) rfl (by decide) rfl (hts _ kw_1375) rfl rfl hin rfl rfl rfl dX12_init_275 (fun H locs M159 eM159 hW hS => ?_)
  replace hf := hf M159 eM159
  refine lv_aload_n hx hb dX12_init_278 rfl (lv_at hl 0 rfl) ?_
  refine lv_sipush (v := 4096) hx hb dX12_init_279 (by decide +kernel) ?_
  refine gm_newi hx hb (hts _ kw_129) hK hW hS hA (n := 4096) 4096 (by decide +kernel) (by decide +kernel) (Nat.le_refl _) (by decide) (by show _ ≤ 38; omega) (by show _ ≤ 1447025; omega) dX12_init_282 (fun q160 H Y161 M162 h0q160 eY161 eM162 hW hS => ?_)
  replace hf := hf q160 h0q160 Y161 eY161 M162 eM162
  obtain ⟨k163, hf⟩ := hf
  refine gm_putFR (C := RX12) (T := TX12) (N := 68) (j := 60) hx hb hts inT_12 tyX12 tyX12_ok nmX12 hown hK hW hS k163 (by decide) rfl (by decide) rfl (hts _ kw_1376) rfl rfl hin rfl rfl rfl dX12_init_284 (fun H locs M164 eM164 hW hS => ?_)
  replace hf := hf M164 eM164
  refine lv_aload_n hx hb dX12_init_287 rfl (lv_at hl 0 rfl) ?_
  refine lv_ldc (v := 40000) hx hb hown (hts _ kw_1315) dX12_init_288 ?_
  refine gm_newi hx hb (hts _ kw_129) hK hW hS hA (n := 40000) 40000 (by decide +kernel) (by decide +kernel) (Nat.le_refl _) (by decide) (by show _ ≤ 38; omega) (by show _ ≤ 1447025; omega) dX12_init_290 (fun q165 H Y166 M167 h0q165 eY166 eM167 hW hS => ?_)
  replace hf := hf q165 h0q165 Y166 eY166 M167 eM167
  obtain ⟨k168, hf⟩ := hf
  refine gm_putFR (C := RX12) (T := TX12) (N := 68) (j := 61) hx hb hts inT_12 tyX12 tyX12_ok nmX12 hown hK hW hS k168 (by decide) rfl (by decide) rfl (hts _ kw_1377) rfl rfl hin rfl rfl rfl dX12_init_292 (fun H locs M169 eM169 hW hS => ?_)
  replace hf := hf M169 eM169
  refine lv_aload_n hx hb dX12_init_295 rfl (lv_at hl 0 rfl) ?_
  refine lv_sipush (v := 4500) hx hb dX12_init_296 (by decide +kernel) ?_
  refine gm_newi hx hb (hts _ kw_129) hK hW hS hA (n := 4500) 4500 (by decide +kernel) (by decide +kernel) (Nat.le_refl _) (by decide) (by show _ ≤ 38; omega) (by show _ ≤ 1447025; omega) dX12_init_299 (fun q170 H Y171 M172 h0q170 eY171 eM172 hW hS => ?_)
  replace hf := hf q170 h0q170 Y171 eY171 M172 eM172
  obtain ⟨k173, hf⟩ := hf
  refine gm_putFR (C := RX12) (T := TX12) (N := 68) (j := 62) hx hb hts inT_12 tyX12 tyX12_ok nmX12 hown hK hW hS k173 (by decide) rfl (by decide) rfl (hts _ kw_1378) rfl rfl hin rfl rfl rfl dX12_init_301 (fun H locs M174 eM174 hW hS => ?_)
  replace hf := hf M174 eM174
  refine lv_aload_n hx hb dX12_init_304 rfl (lv_at hl 0 rfl) ?_
  refine lv_sipush (v := 4500) hx hb dX12_init_305 (by decide +kernel) ?_
  refine gm_newi hx hb (hts _ kw_129) hK hW hS hA (n := 4500) 4500 (by decide +kernel) (by decide +kernel) (Nat.le_refl _) (by decide) (by show _ ≤ 38; omega) (by show _ ≤ 1447025; omega) dX12_init_308 (fun q175 H Y176 M177 h0q175 eY176 eM177 hW hS => ?_)
  replace hf := hf q175 h0q175 Y176 eY176 M177 eM177
  obtain ⟨k178, hf⟩ := hf
  refine gm_putFR (C := RX12) (T := TX12) (N := 68) (j := 63) hx hb hts inT_12 tyX12 tyX12_ok nmX12 hown hK hW hS k178 (by decide) rfl (by decide) rfl (hts _ kw_1379) rfl rfl hin rfl rfl rfl dX12_init_310 (fun H locs M179 eM179 hW hS => ?_)
  replace hf := hf M179 eM179
  refine lv_aload_n hx hb dX12_init_313 rfl (lv_at hl 0 rfl) ?_
  refine lv_bipush (v := 60) hx hb dX12_init_314 (by decide +kernel) ?_
  refine gm_newi hx hb (hts _ kw_129) hK hW hS hA (n := 60) 60 (by decide +kernel) (by decide +kernel) (Nat.le_refl _) (by decide) (by show _ ≤ 38; omega) (by show _ ≤ 1447025; omega) dX12_init_316 (fun q180 H Y181 M182 h0q180 eY181 eM182 hW hS => ?_)
  replace hf := hf q180 h0q180 Y181 eY181 M182 eM182
  obtain ⟨k183, hf⟩ := hf
  refine gm_putFR (C := RX12) (T := TX12) (N := 68) (j := 65) hx hb hts inT_12 tyX12 tyX12_ok nmX12 hown hK hW hS k183 (by decide) rfl (by decide) rfl (hts _ kw_1381) rfl rfl hin rfl rfl rfl dX12_init_318 (fun H locs M184 eM184 hW hS => ?_)
  replace hf := hf M184 eM184
  refine lv_aload_n hx hb dX12_init_321 rfl (lv_at hl 0 rfl) ?_
  refine lv_bipush (v := 60) hx hb dX12_init_322 (by decide +kernel) ?_
  refine gm_newi hx hb (hts _ kw_129) hK hW hS hA (n := 60) 60 (by decide +kernel) (by decide +kernel) (Nat.le_refl _) (by decide) (by show _ ≤ 38; omega) (by show _ ≤ 1447025; omega) dX12_init_324 (fun q185 H Y186 M187 h0q185 eY186 eM187 hW hS => ?_)
  replace hf := hf q185 h0q185 Y186 eY186 M187 eM187
  obtain ⟨k188, hf⟩ := hf
  refine gm_putFR (C := RX12) (T := TX12) (N := 68) (j := 66) hx hb hts inT_12 tyX12 tyX12_ok nmX12 hown hK hW hS k188 (by decide) rfl (by decide) rfl (hts _ kw_1382) rfl rfl hin rfl rfl rfl dX12_init_326 (fun H locs M189 eM189 hW hS => ?_)
  replace hf := hf M189 eM189
  refine lv_aload_n hx hb dX12_init_329 rfl (lv_at hl 0 rfl) ?_
  refine lv_bipush (v := 78) hx hb dX12_init_330 (by decide +kernel) ?_
  refine gm_newi hx hb (hts _ kw_129) hK hW hS hA (n := 78) 78 (by decide +kernel) (by decide +kernel) (Nat.le_refl _) (by decide) (by show _ ≤ 38; omega) (by show _ ≤ 1447025; omega) dX12_init_332 (fun q190 H Y191 M192 h0q190 eY191 eM192 hW hS => ?_)
  replace hf := hf q190 h0q190 Y191 eY191 M192 eM192
  obtain ⟨k193, hf⟩ := hf
  refine gm_putFR (C := RX12) (T := TX12) (N := 68) (j := 67) hx hb hts inT_12 tyX12 tyX12_ok nmX12 hown hK hW hS k193 (by decide) rfl (by decide) rfl (hts _ kw_1383) rfl rfl hin rfl rfl rfl dX12_init_334 (fun H locs M194 eM194 hW hS => ?_)
  replace hf := hf M194 eM194
  refine lv_aload_n hx hb dX12_init_337 rfl (lv_at hl 0 rfl) ?_
  refine lv_iload_n hx hb dX12_init_338 rfl (lv_at hl 1 rfl) ?_
  refine lv_iconst (v := 1) hx hb dX12_init_339 (by decide +kernel) ?_
  have j359 : ∀ (y195 : Int32) (H : Heap) (locs : List Loc) (ls : Array Slot), lv_has ls 4 [(0, .ref v0), (2, .int v2), (3, .int v3)] → Wd D cy A Y191 M194 H → va_S A s.heap H locs → f_X12_init_359 Y191 v0 v2 v3 Kn M194 y195 → W p l e rm_X12_init s m args below meth c H locs (38) (1447025) (MQ below (QA D cy A Kn) args s 38 1447025 A) (F0 m 359 ls [.int y195, .ref v0]) := by
    intro y195 H locs ls hl hW hS hf
    unfold f_X12_init_359 at hf
    refine gm_putFI (C := RX12) (T := TX12) (N := 68) (j := 1) hx hb hts inT_12 tyX12 tyX12_ok nmX12 hown hK hW hS k193 (by decide) rfl (by decide) rfl (hts _ kw_1317) rfl rfl hin rfl rfl rfl dX12_init_359 (fun H locs M196 eM196 hW hS => ?_)
    replace hf := hf M196 eM196
    refine lv_aload_n hx hb dX12_init_362 rfl (lv_at hl 0 rfl) ?_
    refine lv_iload_n hx hb dX12_init_363 rfl (lv_at hl 1 rfl) ?_
    refine lv_iconst (v := 1) hx hb dX12_init_364 (by decide +kernel) ?_
    have j384 : ∀ (y197 : Int32) (H : Heap) (locs : List Loc) (ls : Array Slot), lv_has ls 4 [(0, .ref v0), (3, .int v3)] → Wd D cy A Y191 M196 H → va_S A s.heap H locs → f_X12_init_384 Y191 v0 v3 Kn M196 y197 → W p l e rm_X12_init s m args below meth c H locs (38) (1447025) (MQ below (QA D cy A Kn) args s 38 1447025 A) (F0 m 384 ls [.int y197, .ref v0]) := by
      intro y197 H locs ls hl hW hS hf
      unfold f_X12_init_384 at hf
      refine gm_putFI (C := RX12) (T := TX12) (N := 68) (j := 2) hx hb hts inT_12 tyX12 tyX12_ok nmX12 hown hK hW hS k193 (by decide) rfl (by decide) rfl (hts _ kw_1318) rfl rfl hin rfl rfl rfl dX12_init_384 (fun H locs M198 eM198 hW hS => ?_)
      replace hf := hf M198 eM198
      refine lv_aload_n hx hb dX12_init_387 rfl (lv_at hl 0 rfl) ?_
      refine lv_iload_n hx hb dX12_init_388 rfl (lv_at hl 1 rfl) ?_
      refine lv_bipush (v := 32) hx hb dX12_init_389 (by decide +kernel) ?_
      have j413 : ∀ (y199 : Int32) (H : Heap) (locs : List Loc) (ls : Array Slot), lv_has ls 4 [] → Wd D cy A Y191 M198 H → va_S A s.heap H locs → f_X12_init_413 Y191 v0 Kn M198 y199 → W p l e rm_X12_init s m args below meth c H locs (38) (1447025) (MQ below (QA D cy A Kn) args s 38 1447025 A) (F0 m 413 ls [.int y199, .ref v0]) := by
        intro y199 H locs ls hl hW hS hf
        unfold f_X12_init_413 at hf
        refine gm_putFI (C := RX12) (T := TX12) (N := 68) (j := 3) hx hb hts inT_12 tyX12 tyX12_ok nmX12 hown hK hW hS k193 (by decide) rfl (by decide) rfl (hts _ kw_1319) rfl rfl hin rfl rfl rfl dX12_init_413 (fun H locs M200 eM200 hW hS => ?_)
        replace hf := hf M200 eM200
        refine W.widen (k := 38) (n := 1447025) (by omega) (by omega) ?_
        exact gm_vretA hx hb hr hlocks hW hS hf dX12_init_416
      refine lv_icmp_ge (tgt := 399) hx hb dX12_init_391 (by decide) (fun c201 => ?_) (fun c201 => ?_)
      · replace hf := hf.1 c201
        refine lv_iload_n hx hb dX12_init_399 rfl (lv_at hl 1 rfl) ?_
        refine lv_sipush (v := 256) hx hb dX12_init_400 (by decide +kernel) ?_
        refine lv_icmp_le (tgt := 412) hx hb dX12_init_403 (by decide) (fun c202 => ?_) (fun c202 => ?_)
        · replace hf := hf.1 c202
          refine lv_iload_n hx hb dX12_init_412 rfl (lv_at hl 1 rfl) ?_
          exact j413 _ _ _ _ (lv_sub hl [] rfl) hW hS hf
        · replace hf := hf.2 c202
          refine lv_sipush (v := 256) hx hb dX12_init_406 (by decide +kernel) ?_
          refine lv_goto (tgt := 413) hx hb dX12_init_409 (by decide) ?_
          exact j413 _ _ _ _ (lv_sub hl [] rfl) hW hS hf
      · replace hf := hf.2 c201
        refine lv_bipush (v := 32) hx hb dX12_init_394 (by decide +kernel) ?_
        refine lv_goto (tgt := 413) hx hb dX12_init_396 (by decide) ?_
        exact j413 _ _ _ _ (lv_sub hl [] rfl) hW hS hf
    refine lv_icmp_ge (tgt := 372) hx hb dX12_init_365 (by decide) (fun c203 => ?_) (fun c203 => ?_)
    · replace hf := hf.1 c203
      refine lv_iload_n hx hb dX12_init_372 rfl (lv_at hl 1 rfl) ?_
      refine lv_bipush (v := 16) hx hb dX12_init_373 (by decide +kernel) ?_
      refine lv_icmp_le (tgt := 383) hx hb dX12_init_375 (by decide) (fun c204 => ?_) (fun c204 => ?_)
      · replace hf := hf.1 c204
        refine lv_iload_n hx hb dX12_init_383 rfl (lv_at hl 1 rfl) ?_
        exact j384 _ _ _ _ (lv_sub hl [0, 2] rfl) hW hS hf
      · replace hf := hf.2 c204
        refine lv_bipush (v := 16) hx hb dX12_init_378 (by decide +kernel) ?_
        refine lv_goto (tgt := 384) hx hb dX12_init_380 (by decide) ?_
        exact j384 _ _ _ _ (lv_sub hl [0, 2] rfl) hW hS hf
    · replace hf := hf.2 c203
      refine lv_iconst (v := 1) hx hb dX12_init_368 (by decide +kernel) ?_
      refine lv_goto (tgt := 384) hx hb dX12_init_369 (by decide) ?_
      exact j384 _ _ _ _ (lv_sub hl [0, 2] rfl) hW hS hf
  refine lv_icmp_ge (tgt := 347) hx hb dX12_init_340 (by decide) (fun c205 => ?_) (fun c205 => ?_)
  · replace hf := hf.1 c205
    refine lv_iload_n hx hb dX12_init_347 rfl (lv_at hl 1 rfl) ?_
    refine lv_bipush (v := 8) hx hb dX12_init_348 (by decide +kernel) ?_
    refine lv_icmp_le (tgt := 358) hx hb dX12_init_350 (by decide) (fun c206 => ?_) (fun c206 => ?_)
    · replace hf := hf.1 c206
      refine lv_iload_n hx hb dX12_init_358 rfl (lv_at hl 1 rfl) ?_
      exact j359 _ _ _ _ (lv_sub hl [0, 2, 3] rfl) hW hS hf
    · replace hf := hf.2 c206
      refine lv_bipush (v := 8) hx hb dX12_init_353 (by decide +kernel) ?_
      refine lv_goto (tgt := 359) hx hb dX12_init_355 (by decide) ?_
      exact j359 _ _ _ _ (lv_sub hl [0, 2, 3] rfl) hW hS hf
  · replace hf := hf.2 c205
    refine lv_iconst (v := 1) hx hb dX12_init_343 (by decide +kernel) ?_
    refine lv_goto (tgt := 359) hx hb dX12_init_344 (by decide) ?_
    exact j359 _ _ _ _ (lv_sub hl [0, 2, 3] rfl) hW hS hf
