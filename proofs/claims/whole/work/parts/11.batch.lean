/-! by gen.py: what the methods do, and that they do it -/
abbrev rm_X0_baseOf : Room := { frames := 4, cells := 0, slots := 0, locals := 128 }
def f_X0_baseOf (Y : Ly) (v0 : Nat) (v1 : Int32) (M : Mm) (Kn : Int64 → Mm → Prop) : Prop :=
  f_X1_signed Y v0 v1 8 M (fun r2 M1 => (Kn r2 M1))
set_option maxHeartbeats 4000000 in
set_option maxRecDepth 100000 in
theorem m_X0_baseOf (l : Launch) (D : va_G) (cy : Cy) (tq sz : Nat) (Y : Ly) (v0 : Nat) (v1 : Int32) (M : Mm) (Kn : Int64 → Mm → Prop) : Met l yX0_baseOf (Cond.code yX0_baseOf cX0_baseOf 2 (some .long) :: TT) rm_X0_baseOf (PcG D cy tq [.ref v0, .int v1] sz Y M (f_X0_baseOf Y v0 v1 M Kn)) (va_Ql Kn (BG D cy (Am Y sz) Y) (Am Y sz)) 0 0 (Am Y sz) := by
  refine Met.ofW (cc := cX0_baseOf) (maxL := 2) (ret := (some .long)) (by decide) rfl ?_
  intro p e s m args below meth c s₁ B hml hv
  obtain ⟨hargs, hsz, hW, hK, hC, hf⟩ := hv
  subst hsz
  have hx := B.exec
  have hb := B.bytes
  have hr := B.returns
  have hts : ∀ w ∈ TT, w.before args s = true := fun w h => atoms_spec (ws := Cond.code yX0_baseOf cX0_baseOf 2 (some .long) :: TT) B.pre w (List.mem_cons_of_mem _ h)
  have hown : s.vm.findClass RX0 = some m.cls := findClass_of_methodNamed B.named
  have hlocks := B.notSynchronized
  replace hW := Wd_self (sz := s.heap.size) hW
  generalize hAe : Am Y s.heap.size = A at hW hC ⊢
  have hA : ∀ q : Nat, s.heap.size ≤ q → A q := fun q h => by rw [← hAe]; exact Or.inr h
  clear hAe
  have hS : va_S A s.heap s.heap [] := va_S.rf
  obtain ⟨ls, hE, hl⟩ := gm_entry m [.ref v0, .int v1] (n := 2) hargs (Nat.le_of_ble_eq_true rfl)
  rw [hE]
  have hl : lv_has ls 2 [(0, .ref v0), (1, .int v1)] := hl
  show W p l e rm_X0_baseOf s m args below meth c s.heap [] 0 0 (MQ below (va_Ql Kn (BG D cy A Y) A) args s 0 0 A) (F0 m 0 ls [])
  unfold f_X0_baseOf at hf
  refine lv_aload_n hx hb dX0_baseOf_0 rfl (lv_at hl 0 rfl) ?_
  refine lv_iload_n hx hb dX0_baseOf_1 rfl (lv_at hl 1 rfl) ?_
  refine lv_bipush (v := 8) hx hb dX0_baseOf_2 (by decide +kernel) ?_
  refine gm_cl (va_runS (As := [.ref v0, .int v1, .int 8]) (rest := []) ⟨hx, hb, hml, hown, hts⟩ (m_X1_signed l D cy tq _ Y _ _ _ _ _) (va_cwS 3 hts (good_S kw_357 kw_329 kw_17 kw_330) rfl rfl rfl (by decide +kernel) ⟨Nat.le_of_ble_eq_true rfl, Nat.le_of_ble_eq_true rfl⟩) (gm_preS hK hW hC hS hA hf) rfl rfl hl.1 rfl (lv_room (Nat.le_of_ble_eq_true rfl)) dX0_baseOf_4 ⟨Nat.le_of_ble_eq_true rfl, Nat.le_of_ble_eq_true rfl⟩) hW hS hA (fun r2 M1 H locs hW hS hf => ?_)
  exact gm_lret hx hb hr hlocks hW hS hf dX0_baseOf_7

abbrev rm_X0_sizeOf : Room := { frames := 4, cells := 0, slots := 0, locals := 128 }
def f_X0_sizeOf (Y : Ly) (v0 : Nat) (v1 : Int32) (M : Mm) (Kn : Int32 → Mm → Prop) : Prop :=
  f_X1_signed Y v0 (v1 + 8) 4 M (fun r2 M1 => (Kn (12 + r2.toInt32) M1))
set_option maxHeartbeats 4000000 in
set_option maxRecDepth 100000 in
theorem m_X0_sizeOf (l : Launch) (D : va_G) (cy : Cy) (tq sz : Nat) (Y : Ly) (v0 : Nat) (v1 : Int32) (M : Mm) (Kn : Int32 → Mm → Prop) : Met l yX0_sizeOf (Cond.code yX0_sizeOf cX0_sizeOf 2 (some .int) :: TT) rm_X0_sizeOf (PcG D cy tq [.ref v0, .int v1] sz Y M (f_X0_sizeOf Y v0 v1 M Kn)) (va_Qi Kn (BG D cy (Am Y sz) Y) (Am Y sz)) 0 0 (Am Y sz) := by
  refine Met.ofW (cc := cX0_sizeOf) (maxL := 2) (ret := (some .int)) (by decide) rfl ?_
  intro p e s m args below meth c s₁ B hml hv
  obtain ⟨hargs, hsz, hW, hK, hC, hf⟩ := hv
  subst hsz
  have hx := B.exec
  have hb := B.bytes
  have hr := B.returns
  have hts : ∀ w ∈ TT, w.before args s = true := fun w h => atoms_spec (ws := Cond.code yX0_sizeOf cX0_sizeOf 2 (some .int) :: TT) B.pre w (List.mem_cons_of_mem _ h)
  have hown : s.vm.findClass RX0 = some m.cls := findClass_of_methodNamed B.named
  have hlocks := B.notSynchronized
  replace hW := Wd_self (sz := s.heap.size) hW
  generalize hAe : Am Y s.heap.size = A at hW hC ⊢
  have hA : ∀ q : Nat, s.heap.size ≤ q → A q := fun q h => by rw [← hAe]; exact Or.inr h
  clear hAe
  have hS : va_S A s.heap s.heap [] := va_S.rf
  obtain ⟨ls, hE, hl⟩ := gm_entry m [.ref v0, .int v1] (n := 2) hargs (Nat.le_of_ble_eq_true rfl)
  rw [hE]
  have hl : lv_has ls 2 [(0, .ref v0), (1, .int v1)] := hl
  show W p l e rm_X0_sizeOf s m args below meth c s.heap [] 0 0 (MQ below (va_Qi Kn (BG D cy A Y) A) args s 0 0 A) (F0 m 0 ls [])
  unfold f_X0_sizeOf at hf
  refine lv_bipush (v := 12) hx hb dX0_sizeOf_0 (by decide +kernel) ?_
  refine lv_aload_n hx hb dX0_sizeOf_2 rfl (lv_at hl 0 rfl) ?_
  refine lv_iload_n hx hb dX0_sizeOf_3 rfl (lv_at hl 1 rfl) ?_
  refine lv_bipush (v := 8) hx hb dX0_sizeOf_4 (by decide +kernel) ?_
  refine lv_iadd hx hb dX0_sizeOf_6 ?_
  refine lv_iconst (v := 4) hx hb dX0_sizeOf_7 (by decide +kernel) ?_
  refine gm_cl (va_runS (As := [.ref v0, .int (v1 + 8), .int 4]) (rest := [.int 12]) ⟨hx, hb, hml, hown, hts⟩ (m_X1_signed l D cy tq _ Y _ _ _ _ _) (va_cwS 3 hts (good_S kw_357 kw_329 kw_17 kw_330) rfl rfl rfl (by decide +kernel) ⟨Nat.le_of_ble_eq_true rfl, Nat.le_of_ble_eq_true rfl⟩) (gm_preS hK hW hC hS hA hf) rfl rfl hl.1 rfl (lv_room (Nat.le_of_ble_eq_true rfl)) dX0_sizeOf_8 ⟨Nat.le_of_ble_eq_true rfl, Nat.le_of_ble_eq_true rfl⟩) hW hS hA (fun r2 M1 H locs hW hS hf => ?_)
  refine lv_l2i hx hb dX0_sizeOf_11 rfl ?_
  refine lv_iadd hx hb dX0_sizeOf_12 ?_
  exact gm_iret hx hb hr hlocks hW hS hf dX0_sizeOf_13

abbrev rm_X0_lastOf : Room := { frames := 4, cells := 0, slots := 0, locals := 128 }
def f_X0_lastOf (Y : Ly) (v0 : Nat) (v1 : Int32) (M : Mm) (Kn : Int32 → Mm → Prop) : Prop :=
  f_X1_signed Y v0 (v1 + 23) 4 M (fun r2 M1 => (Kn r2.toInt32 M1))
set_option maxHeartbeats 4000000 in
set_option maxRecDepth 100000 in
theorem m_X0_lastOf (l : Launch) (D : va_G) (cy : Cy) (tq sz : Nat) (Y : Ly) (v0 : Nat) (v1 : Int32) (M : Mm) (Kn : Int32 → Mm → Prop) : Met l yX0_lastOf (Cond.code yX0_lastOf cX0_lastOf 2 (some .int) :: TT) rm_X0_lastOf (PcG D cy tq [.ref v0, .int v1] sz Y M (f_X0_lastOf Y v0 v1 M Kn)) (va_Qi Kn (BG D cy (Am Y sz) Y) (Am Y sz)) 0 0 (Am Y sz) := by
  refine Met.ofW (cc := cX0_lastOf) (maxL := 2) (ret := (some .int)) (by decide) rfl ?_
  intro p e s m args below meth c s₁ B hml hv
  obtain ⟨hargs, hsz, hW, hK, hC, hf⟩ := hv
  subst hsz
  have hx := B.exec
  have hb := B.bytes
  have hr := B.returns
  have hts : ∀ w ∈ TT, w.before args s = true := fun w h => atoms_spec (ws := Cond.code yX0_lastOf cX0_lastOf 2 (some .int) :: TT) B.pre w (List.mem_cons_of_mem _ h)
  have hown : s.vm.findClass RX0 = some m.cls := findClass_of_methodNamed B.named
  have hlocks := B.notSynchronized
  replace hW := Wd_self (sz := s.heap.size) hW
  generalize hAe : Am Y s.heap.size = A at hW hC ⊢
  have hA : ∀ q : Nat, s.heap.size ≤ q → A q := fun q h => by rw [← hAe]; exact Or.inr h
  clear hAe
  have hS : va_S A s.heap s.heap [] := va_S.rf
  obtain ⟨ls, hE, hl⟩ := gm_entry m [.ref v0, .int v1] (n := 2) hargs (Nat.le_of_ble_eq_true rfl)
  rw [hE]
  have hl : lv_has ls 2 [(0, .ref v0), (1, .int v1)] := hl
  show W p l e rm_X0_lastOf s m args below meth c s.heap [] 0 0 (MQ below (va_Qi Kn (BG D cy A Y) A) args s 0 0 A) (F0 m 0 ls [])
  unfold f_X0_lastOf at hf
  refine lv_aload_n hx hb dX0_lastOf_0 rfl (lv_at hl 0 rfl) ?_
  refine lv_iload_n hx hb dX0_lastOf_1 rfl (lv_at hl 1 rfl) ?_
  refine lv_bipush (v := 23) hx hb dX0_lastOf_2 (by decide +kernel) ?_
  refine lv_iadd hx hb dX0_lastOf_4 ?_
  refine lv_iconst (v := 4) hx hb dX0_lastOf_5 (by decide +kernel) ?_
  refine gm_cl (va_runS (As := [.ref v0, .int (v1 + 23), .int 4]) (rest := []) ⟨hx, hb, hml, hown, hts⟩ (m_X1_signed l D cy tq _ Y _ _ _ _ _) (va_cwS 3 hts (good_S kw_357 kw_329 kw_17 kw_330) rfl rfl rfl (by decide +kernel) ⟨Nat.le_of_ble_eq_true rfl, Nat.le_of_ble_eq_true rfl⟩) (gm_preS hK hW hC hS hA hf) rfl rfl hl.1 rfl (lv_room (Nat.le_of_ble_eq_true rfl)) dX0_lastOf_6 ⟨Nat.le_of_ble_eq_true rfl, Nat.le_of_ble_eq_true rfl⟩) hW hS hA (fun r2 M1 H locs hW hS hf => ?_)
  refine lv_l2i hx hb dX0_lastOf_9 rfl ?_
  exact gm_iret hx hb hr hlocks hW hS hf dX0_lastOf_10

abbrev rm_X0_firstTimeOf : Room := { frames := 4, cells := 0, slots := 0, locals := 128 }
def f_X0_firstTimeOf (Y : Ly) (v0 : Nat) (v1 : Int32) (M : Mm) (Kn : Int64 → Mm → Prop) : Prop :=
  f_X1_signed Y v0 (v1 + 27) 8 M (fun r2 M1 => (Kn r2 M1))
set_option maxHeartbeats 4000000 in
set_option maxRecDepth 100000 in
theorem m_X0_firstTimeOf (l : Launch) (D : va_G) (cy : Cy) (tq sz : Nat) (Y : Ly) (v0 : Nat) (v1 : Int32) (M : Mm) (Kn : Int64 → Mm → Prop) : Met l yX0_firstTimeOf (Cond.code yX0_firstTimeOf cX0_firstTimeOf 2 (some .long) :: TT) rm_X0_firstTimeOf (PcG D cy tq [.ref v0, .int v1] sz Y M (f_X0_firstTimeOf Y v0 v1 M Kn)) (va_Ql Kn (BG D cy (Am Y sz) Y) (Am Y sz)) 0 0 (Am Y sz) := by
  refine Met.ofW (cc := cX0_firstTimeOf) (maxL := 2) (ret := (some .long)) (by decide) rfl ?_
  intro p e s m args below meth c s₁ B hml hv
  obtain ⟨hargs, hsz, hW, hK, hC, hf⟩ := hv
  subst hsz
  have hx := B.exec
  have hb := B.bytes
  have hr := B.returns
  have hts : ∀ w ∈ TT, w.before args s = true := fun w h => atoms_spec (ws := Cond.code yX0_firstTimeOf cX0_firstTimeOf 2 (some .long) :: TT) B.pre w (List.mem_cons_of_mem _ h)
  have hown : s.vm.findClass RX0 = some m.cls := findClass_of_methodNamed B.named
  have hlocks := B.notSynchronized
  replace hW := Wd_self (sz := s.heap.size) hW
  generalize hAe : Am Y s.heap.size = A at hW hC ⊢
  have hA : ∀ q : Nat, s.heap.size ≤ q → A q := fun q h => by rw [← hAe]; exact Or.inr h
  clear hAe
  have hS : va_S A s.heap s.heap [] := va_S.rf
  obtain ⟨ls, hE, hl⟩ := gm_entry m [.ref v0, .int v1] (n := 2) hargs (Nat.le_of_ble_eq_true rfl)
  rw [hE]
  have hl : lv_has ls 2 [(0, .ref v0), (1, .int v1)] := hl
  show W p l e rm_X0_firstTimeOf s m args below meth c s.heap [] 0 0 (MQ below (va_Ql Kn (BG D cy A Y) A) args s 0 0 A) (F0 m 0 ls [])
  unfold f_X0_firstTimeOf at hf
  refine lv_aload_n hx hb dX0_firstTimeOf_0 rfl (lv_at hl 0 rfl) ?_
  refine lv_iload_n hx hb dX0_firstTimeOf_1 rfl (lv_at hl 1 rfl) ?_
  refine lv_bipush (v := 27) hx hb dX0_firstTimeOf_2 (by decide +kernel) ?_
  refine lv_iadd hx hb dX0_firstTimeOf_4 ?_
  refine lv_bipush (v := 8) hx hb dX0_firstTimeOf_5 (by decide +kernel) ?_
  refine gm_cl (va_runS (As := [.ref v0, .int (v1 + 27), .int 8]) (rest := []) ⟨hx, hb, hml, hown, hts⟩ (m_X1_signed l D cy tq _ Y _ _ _ _ _) (va_cwS 3 hts (good_S kw_357 kw_329 kw_17 kw_330) rfl rfl rfl (by decide +kernel) ⟨Nat.le_of_ble_eq_true rfl, Nat.le_of_ble_eq_true rfl⟩) (gm_preS hK hW hC hS hA hf) rfl rfl hl.1 rfl (lv_room (Nat.le_of_ble_eq_true rfl)) dX0_firstTimeOf_7 ⟨Nat.le_of_ble_eq_true rfl, Nat.le_of_ble_eq_true rfl⟩) hW hS hA (fun r2 M1 H locs hW hS hf => ?_)
  exact gm_lret hx hb hr hlocks hW hS hf dX0_firstTimeOf_10

abbrev rm_X0_greatestTimeOf : Room := { frames := 4, cells := 0, slots := 0, locals := 128 }
def f_X0_greatestTimeOf (Y : Ly) (v0 : Nat) (v1 : Int32) (M : Mm) (Kn : Int64 → Mm → Prop) : Prop :=
  f_X1_signed Y v0 (v1 + 35) 8 M (fun r2 M1 => (Kn r2 M1))
set_option maxHeartbeats 4000000 in
set_option maxRecDepth 100000 in
theorem m_X0_greatestTimeOf (l : Launch) (D : va_G) (cy : Cy) (tq sz : Nat) (Y : Ly) (v0 : Nat) (v1 : Int32) (M : Mm) (Kn : Int64 → Mm → Prop) : Met l yX0_greatestTimeOf (Cond.code yX0_greatestTimeOf cX0_greatestTimeOf 2 (some .long) :: TT) rm_X0_greatestTimeOf (PcG D cy tq [.ref v0, .int v1] sz Y M (f_X0_greatestTimeOf Y v0 v1 M Kn)) (va_Ql Kn (BG D cy (Am Y sz) Y) (Am Y sz)) 0 0 (Am Y sz) := by
  refine Met.ofW (cc := cX0_greatestTimeOf) (maxL := 2) (ret := (some .long)) (by decide) rfl ?_
  intro p e s m args below meth c s₁ B hml hv
  obtain ⟨hargs, hsz, hW, hK, hC, hf⟩ := hv
  subst hsz
  have hx := B.exec
  have hb := B.bytes
  have hr := B.returns
  have hts : ∀ w ∈ TT, w.before args s = true := fun w h => atoms_spec (ws := Cond.code yX0_greatestTimeOf cX0_greatestTimeOf 2 (some .long) :: TT) B.pre w (List.mem_cons_of_mem _ h)
  have hown : s.vm.findClass RX0 = some m.cls := findClass_of_methodNamed B.named
  have hlocks := B.notSynchronized
  replace hW := Wd_self (sz := s.heap.size) hW
  generalize hAe : Am Y s.heap.size = A at hW hC ⊢
  have hA : ∀ q : Nat, s.heap.size ≤ q → A q := fun q h => by rw [← hAe]; exact Or.inr h
  clear hAe
  have hS : va_S A s.heap s.heap [] := va_S.rf
  obtain ⟨ls, hE, hl⟩ := gm_entry m [.ref v0, .int v1] (n := 2) hargs (Nat.le_of_ble_eq_true rfl)
  rw [hE]
  have hl : lv_has ls 2 [(0, .ref v0), (1, .int v1)] := hl
  show W p l e rm_X0_greatestTimeOf s m args below meth c s.heap [] 0 0 (MQ below (va_Ql Kn (BG D cy A Y) A) args s 0 0 A) (F0 m 0 ls [])
  unfold f_X0_greatestTimeOf at hf
  refine lv_aload_n hx hb dX0_greatestTimeOf_0 rfl (lv_at hl 0 rfl) ?_
  refine lv_iload_n hx hb dX0_greatestTimeOf_1 rfl (lv_at hl 1 rfl) ?_
  refine lv_bipush (v := 35) hx hb dX0_greatestTimeOf_2 (by decide +kernel) ?_
  refine lv_iadd hx hb dX0_greatestTimeOf_4 ?_
  refine lv_bipush (v := 8) hx hb dX0_greatestTimeOf_5 (by decide +kernel) ?_
  refine gm_cl (va_runS (As := [.ref v0, .int (v1 + 35), .int 8]) (rest := []) ⟨hx, hb, hml, hown, hts⟩ (m_X1_signed l D cy tq _ Y _ _ _ _ _) (va_cwS 3 hts (good_S kw_357 kw_329 kw_17 kw_330) rfl rfl rfl (by decide +kernel) ⟨Nat.le_of_ble_eq_true rfl, Nat.le_of_ble_eq_true rfl⟩) (gm_preS hK hW hC hS hA hf) rfl rfl hl.1 rfl (lv_room (Nat.le_of_ble_eq_true rfl)) dX0_greatestTimeOf_7 ⟨Nat.le_of_ble_eq_true rfl, Nat.le_of_ble_eq_true rfl⟩) hW hS hA (fun r2 M1 H locs hW hS hf => ?_)
  exact gm_lret hx hb hr hlocks hW hS hf dX0_greatestTimeOf_10

abbrev rm_X0_producerOf : Room := { frames := 4, cells := 0, slots := 0, locals := 128 }
def f_X0_producerOf (Y : Ly) (v0 : Nat) (v1 : Int32) (M : Mm) (Kn : Int64 → Mm → Prop) : Prop :=
  f_X1_signed Y v0 (v1 + 43) 8 M (fun r2 M1 => (Kn r2 M1))
set_option maxHeartbeats 4000000 in
set_option maxRecDepth 100000 in
theorem m_X0_producerOf (l : Launch) (D : va_G) (cy : Cy) (tq sz : Nat) (Y : Ly) (v0 : Nat) (v1 : Int32) (M : Mm) (Kn : Int64 → Mm → Prop) : Met l yX0_producerOf (Cond.code yX0_producerOf cX0_producerOf 2 (some .long) :: TT) rm_X0_producerOf (PcG D cy tq [.ref v0, .int v1] sz Y M (f_X0_producerOf Y v0 v1 M Kn)) (va_Ql Kn (BG D cy (Am Y sz) Y) (Am Y sz)) 0 0 (Am Y sz) := by
  refine Met.ofW (cc := cX0_producerOf) (maxL := 2) (ret := (some .long)) (by decide) rfl ?_
  intro p e s m args below meth c s₁ B hml hv
  obtain ⟨hargs, hsz, hW, hK, hC, hf⟩ := hv
  subst hsz
  have hx := B.exec
  have hb := B.bytes
  have hr := B.returns
  have hts : ∀ w ∈ TT, w.before args s = true := fun w h => atoms_spec (ws := Cond.code yX0_producerOf cX0_producerOf 2 (some .long) :: TT) B.pre w (List.mem_cons_of_mem _ h)
  have hown : s.vm.findClass RX0 = some m.cls := findClass_of_methodNamed B.named
  have hlocks := B.notSynchronized
  replace hW := Wd_self (sz := s.heap.size) hW
  generalize hAe : Am Y s.heap.size = A at hW hC ⊢
  have hA : ∀ q : Nat, s.heap.size ≤ q → A q := fun q h => by rw [← hAe]; exact Or.inr h
  clear hAe
  have hS : va_S A s.heap s.heap [] := va_S.rf
  obtain ⟨ls, hE, hl⟩ := gm_entry m [.ref v0, .int v1] (n := 2) hargs (Nat.le_of_ble_eq_true rfl)
  rw [hE]
  have hl : lv_has ls 2 [(0, .ref v0), (1, .int v1)] := hl
  show W p l e rm_X0_producerOf s m args below meth c s.heap [] 0 0 (MQ below (va_Ql Kn (BG D cy A Y) A) args s 0 0 A) (F0 m 0 ls [])
  unfold f_X0_producerOf at hf
  refine lv_aload_n hx hb dX0_producerOf_0 rfl (lv_at hl 0 rfl) ?_
  refine lv_iload_n hx hb dX0_producerOf_1 rfl (lv_at hl 1 rfl) ?_
  refine lv_bipush (v := 43) hx hb dX0_producerOf_2 (by decide +kernel) ?_
  refine lv_iadd hx hb dX0_producerOf_4 ?_
  refine lv_bipush (v := 8) hx hb dX0_producerOf_5 (by decide +kernel) ?_
  refine gm_cl (va_runS (As := [.ref v0, .int (v1 + 43), .int 8]) (rest := []) ⟨hx, hb, hml, hown, hts⟩ (m_X1_signed l D cy tq _ Y _ _ _ _ _) (va_cwS 3 hts (good_S kw_357 kw_329 kw_17 kw_330) rfl rfl rfl (by decide +kernel) ⟨Nat.le_of_ble_eq_true rfl, Nat.le_of_ble_eq_true rfl⟩) (gm_preS hK hW hC hS hA hf) rfl rfl hl.1 rfl (lv_room (Nat.le_of_ble_eq_true rfl)) dX0_producerOf_7 ⟨Nat.le_of_ble_eq_true rfl, Nat.le_of_ble_eq_true rfl⟩) hW hS hA (fun r2 M1 H locs hW hS hf => ?_)
  exact gm_lret hx hb hr hlocks hW hS hf dX0_producerOf_10

abbrev rm_X0_epochOf : Room := { frames := 4, cells := 0, slots := 0, locals := 128 }
def f_X0_epochOf (Y : Ly) (v0 : Nat) (v1 : Int32) (M : Mm) (Kn : Int32 → Mm → Prop) : Prop :=
  f_X1_signed Y v0 (v1 + 51) 2 M (fun r2 M1 => (Kn r2.toInt32 M1))
set_option maxHeartbeats 4000000 in
set_option maxRecDepth 100000 in
theorem m_X0_epochOf (l : Launch) (D : va_G) (cy : Cy) (tq sz : Nat) (Y : Ly) (v0 : Nat) (v1 : Int32) (M : Mm) (Kn : Int32 → Mm → Prop) : Met l yX0_epochOf (Cond.code yX0_epochOf cX0_epochOf 2 (some .int) :: TT) rm_X0_epochOf (PcG D cy tq [.ref v0, .int v1] sz Y M (f_X0_epochOf Y v0 v1 M Kn)) (va_Qi Kn (BG D cy (Am Y sz) Y) (Am Y sz)) 0 0 (Am Y sz) := by
  refine Met.ofW (cc := cX0_epochOf) (maxL := 2) (ret := (some .int)) (by decide) rfl ?_
  intro p e s m args below meth c s₁ B hml hv
  obtain ⟨hargs, hsz, hW, hK, hC, hf⟩ := hv
  subst hsz
  have hx := B.exec
  have hb := B.bytes
  have hr := B.returns
  have hts : ∀ w ∈ TT, w.before args s = true := fun w h => atoms_spec (ws := Cond.code yX0_epochOf cX0_epochOf 2 (some .int) :: TT) B.pre w (List.mem_cons_of_mem _ h)
  have hown : s.vm.findClass RX0 = some m.cls := findClass_of_methodNamed B.named
  have hlocks := B.notSynchronized
  replace hW := Wd_self (sz := s.heap.size) hW
  generalize hAe : Am Y s.heap.size = A at hW hC ⊢
  have hA : ∀ q : Nat, s.heap.size ≤ q → A q := fun q h => by rw [← hAe]; exact Or.inr h
  clear hAe
  have hS : va_S A s.heap s.heap [] := va_S.rf
  obtain ⟨ls, hE, hl⟩ := gm_entry m [.ref v0, .int v1] (n := 2) hargs (Nat.le_of_ble_eq_true rfl)
  rw [hE]
  have hl : lv_has ls 2 [(0, .ref v0), (1, .int v1)] := hl
  show W p l e rm_X0_epochOf s m args below meth c s.heap [] 0 0 (MQ below (va_Qi Kn (BG D cy A Y) A) args s 0 0 A) (F0 m 0 ls [])
  unfold f_X0_epochOf at hf
  refine lv_aload_n hx hb dX0_epochOf_0 rfl (lv_at hl 0 rfl) ?_
  refine lv_iload_n hx hb dX0_epochOf_1 rfl (lv_at hl 1 rfl) ?_
  refine lv_bipush (v := 51) hx hb dX0_epochOf_2 (by decide +kernel) ?_
  refine lv_iadd hx hb dX0_epochOf_4 ?_
  refine lv_iconst (v := 2) hx hb dX0_epochOf_5 (by decide +kernel) ?_
  refine gm_cl (va_runS (As := [.ref v0, .int (v1 + 51), .int 2]) (rest := []) ⟨hx, hb, hml, hown, hts⟩ (m_X1_signed l D cy tq _ Y _ _ _ _ _) (va_cwS 3 hts (good_S kw_357 kw_329 kw_17 kw_330) rfl rfl rfl (by decide +kernel) ⟨Nat.le_of_ble_eq_true rfl, Nat.le_of_ble_eq_true rfl⟩) (gm_preS hK hW hC hS hA hf) rfl rfl hl.1 rfl (lv_room (Nat.le_of_ble_eq_true rfl)) dX0_epochOf_6 ⟨Nat.le_of_ble_eq_true rfl, Nat.le_of_ble_eq_true rfl⟩) hW hS hA (fun r2 M1 H locs hW hS hf => ?_)
  refine lv_l2i hx hb dX0_epochOf_9 rfl ?_
  exact gm_iret hx hb hr hlocks hW hS hf dX0_epochOf_10

abbrev rm_X0_sequenceOf : Room := { frames := 4, cells := 0, slots := 0, locals := 128 }
def f_X0_sequenceOf (Y : Ly) (v0 : Nat) (v1 : Int32) (M : Mm) (Kn : Int32 → Mm → Prop) : Prop :=
  f_X1_signed Y v0 (v1 + 53) 4 M (fun r2 M1 => (Kn r2.toInt32 M1))
set_option maxHeartbeats 4000000 in
set_option maxRecDepth 100000 in
theorem m_X0_sequenceOf (l : Launch) (D : va_G) (cy : Cy) (tq sz : Nat) (Y : Ly) (v0 : Nat) (v1 : Int32) (M : Mm) (Kn : Int32 → Mm → Prop) : Met l yX0_sequenceOf (Cond.code yX0_sequenceOf cX0_sequenceOf 2 (some .int) :: TT) rm_X0_sequenceOf (PcG D cy tq [.ref v0, .int v1] sz Y M (f_X0_sequenceOf Y v0 v1 M Kn)) (va_Qi Kn (BG D cy (Am Y sz) Y) (Am Y sz)) 0 0 (Am Y sz) := by
  refine Met.ofW (cc := cX0_sequenceOf) (maxL := 2) (ret := (some .int)) (by decide) rfl ?_
  intro p e s m args below meth c s₁ B hml hv
  obtain ⟨hargs, hsz, hW, hK, hC, hf⟩ := hv
  subst hsz
  have hx := B.exec
  have hb := B.bytes
  have hr := B.returns
  have hts : ∀ w ∈ TT, w.before args s = true := fun w h => atoms_spec (ws := Cond.code yX0_sequenceOf cX0_sequenceOf 2 (some .int) :: TT) B.pre w (List.mem_cons_of_mem _ h)
  have hown : s.vm.findClass RX0 = some m.cls := findClass_of_methodNamed B.named
  have hlocks := B.notSynchronized
  replace hW := Wd_self (sz := s.heap.size) hW
  generalize hAe : Am Y s.heap.size = A at hW hC ⊢
  have hA : ∀ q : Nat, s.heap.size ≤ q → A q := fun q h => by rw [← hAe]; exact Or.inr h
  clear hAe
  have hS : va_S A s.heap s.heap [] := va_S.rf
  obtain ⟨ls, hE, hl⟩ := gm_entry m [.ref v0, .int v1] (n := 2) hargs (Nat.le_of_ble_eq_true rfl)
  rw [hE]
  have hl : lv_has ls 2 [(0, .ref v0), (1, .int v1)] := hl
  show W p l e rm_X0_sequenceOf s m args below meth c s.heap [] 0 0 (MQ below (va_Qi Kn (BG D cy A Y) A) args s 0 0 A) (F0 m 0 ls [])
  unfold f_X0_sequenceOf at hf
  refine lv_aload_n hx hb dX0_sequenceOf_0 rfl (lv_at hl 0 rfl) ?_
  refine lv_iload_n hx hb dX0_sequenceOf_1 rfl (lv_at hl 1 rfl) ?_
  refine lv_bipush (v := 53) hx hb dX0_sequenceOf_2 (by decide +kernel) ?_
  refine lv_iadd hx hb dX0_sequenceOf_4 ?_
  refine lv_iconst (v := 4) hx hb dX0_sequenceOf_5 (by decide +kernel) ?_
  refine gm_cl (va_runS (As := [.ref v0, .int (v1 + 53), .int 4]) (rest := []) ⟨hx, hb, hml, hown, hts⟩ (m_X1_signed l D cy tq _ Y _ _ _ _ _) (va_cwS 3 hts (good_S kw_357 kw_329 kw_17 kw_330) rfl rfl rfl (by decide +kernel) ⟨Nat.le_of_ble_eq_true rfl, Nat.le_of_ble_eq_true rfl⟩) (gm_preS hK hW hC hS hA hf) rfl rfl hl.1 rfl (lv_room (Nat.le_of_ble_eq_true rfl)) dX0_sequenceOf_6 ⟨Nat.le_of_ble_eq_true rfl, Nat.le_of_ble_eq_true rfl⟩) hW hS hA (fun r2 M1 H locs hW hS hf => ?_)
  refine lv_l2i hx hb dX0_sequenceOf_9 rfl ?_
  exact gm_iret hx hb hr hlocks hW hS hf dX0_sequenceOf_10

abbrev rm_X0_countOf : Room := { frames := 4, cells := 0, slots := 0, locals := 128 }
def f_X0_countOf (Y : Ly) (v0 : Nat) (v1 : Int32) (M : Mm) (Kn : Int32 → Mm → Prop) : Prop :=
  f_X1_signed Y v0 (v1 + 57) 4 M (fun r2 M1 => (Kn r2.toInt32 M1))
set_option maxHeartbeats 4000000 in
set_option maxRecDepth 100000 in
theorem m_X0_countOf (l : Launch) (D : va_G) (cy : Cy) (tq sz : Nat) (Y : Ly) (v0 : Nat) (v1 : Int32) (M : Mm) (Kn : Int32 → Mm → Prop) : Met l yX0_countOf (Cond.code yX0_countOf cX0_countOf 2 (some .int) :: TT) rm_X0_countOf (PcG D cy tq [.ref v0, .int v1] sz Y M (f_X0_countOf Y v0 v1 M Kn)) (va_Qi Kn (BG D cy (Am Y sz) Y) (Am Y sz)) 0 0 (Am Y sz) := by
  refine Met.ofW (cc := cX0_countOf) (maxL := 2) (ret := (some .int)) (by decide) rfl ?_
  intro p e s m args below meth c s₁ B hml hv
  obtain ⟨hargs, hsz, hW, hK, hC, hf⟩ := hv
  subst hsz
  have hx := B.exec
  have hb := B.bytes
  have hr := B.returns
  have hts : ∀ w ∈ TT, w.before args s = true := fun w h => atoms_spec (ws := Cond.code yX0_countOf cX0_countOf 2 (some .int) :: TT) B.pre w (List.mem_cons_of_mem _ h)
  have hown : s.vm.findClass RX0 = some m.cls := findClass_of_methodNamed B.named
  have hlocks := B.notSynchronized
  replace hW := Wd_self (sz := s.heap.size) hW
  generalize hAe : Am Y s.heap.size = A at hW hC ⊢
  have hA : ∀ q : Nat, s.heap.size ≤ q → A q := fun q h => by rw [← hAe]; exact Or.inr h
  clear hAe
  have hS : va_S A s.heap s.heap [] := va_S.rf
  obtain ⟨ls, hE, hl⟩ := gm_entry m [.ref v0, .int v1] (n := 2) hargs (Nat.le_of_ble_eq_true rfl)
  rw [hE]
  have hl : lv_has ls 2 [(0, .ref v0), (1, .int v1)] := hl
  show W p l e rm_X0_countOf s m args below meth c s.heap [] 0 0 (MQ below (va_Qi Kn (BG D cy A Y) A) args s 0 0 A) (F0 m 0 ls [])
  unfold f_X0_countOf at hf
  refine lv_aload_n hx hb dX0_countOf_0 rfl (lv_at hl 0 rfl) ?_
  refine lv_iload_n hx hb dX0_countOf_1 rfl (lv_at hl 1 rfl) ?_
  refine lv_bipush (v := 57) hx hb dX0_countOf_2 (by decide +kernel) ?_
  refine lv_iadd hx hb dX0_countOf_4 ?_
  refine lv_iconst (v := 4) hx hb dX0_countOf_5 (by decide +kernel) ?_
  refine gm_cl (va_runS (As := [.ref v0, .int (v1 + 57), .int 4]) (rest := []) ⟨hx, hb, hml, hown, hts⟩ (m_X1_signed l D cy tq _ Y _ _ _ _ _) (va_cwS 3 hts (good_S kw_357 kw_329 kw_17 kw_330) rfl rfl rfl (by decide +kernel) ⟨Nat.le_of_ble_eq_true rfl, Nat.le_of_ble_eq_true rfl⟩) (gm_preS hK hW hC hS hA hf) rfl rfl hl.1 rfl (lv_room (Nat.le_of_ble_eq_true rfl)) dX0_countOf_6 ⟨Nat.le_of_ble_eq_true rfl, Nat.le_of_ble_eq_true rfl⟩) hW hS hA (fun r2 M1 H locs hW hS hf => ?_)
  refine lv_l2i hx hb dX0_countOf_9 rfl ?_
  exact gm_iret hx hb hr hlocks hW hS hf dX0_countOf_10

abbrev rm_X0_nextSequenceOf : Room := { frames := 5, cells := 0, slots := 0, locals := 149 }
def f_X0_nextSequenceOf (Y : Ly) (v0 : Nat) (v1 : Int32) (M : Mm) (Kn : Int32 → Mm → Prop) : Prop :=
  f_X0_sequenceOf Y v0 v1 M (fun r2 M1 => (f_X0_lastOf Y v0 v1 M1 (fun r4 M3 => (Kn (((r2 + r4) + 1) &&& 2147483647) M3))))
set_option maxHeartbeats 4000000 in
set_option maxRecDepth 100000 in
theorem m_X0_nextSequenceOf (l : Launch) (D : va_G) (cy : Cy) (tq sz : Nat) (Y : Ly) (v0 : Nat) (v1 : Int32) (M : Mm) (Kn : Int32 → Mm → Prop) : Met l yX0_nextSequenceOf (Cond.code yX0_nextSequenceOf cX0_nextSequenceOf 2 (some .int) :: TT) rm_X0_nextSequenceOf (PcG D cy tq [.ref v0, .int v1] sz Y M (f_X0_nextSequenceOf Y v0 v1 M Kn)) (va_Qi Kn (BG D cy (Am Y sz) Y) (Am Y sz)) 0 0 (Am Y sz) := by
  refine Met.ofW (cc := cX0_nextSequenceOf) (maxL := 2) (ret := (some .int)) (by decide) rfl ?_
  intro p e s m args below meth c s₁ B hml hv
  obtain ⟨hargs, hsz, hW, hK, hC, hf⟩ := hv
  subst hsz
  have hx := B.exec
  have hb := B.bytes
  have hr := B.returns
  have hts : ∀ w ∈ TT, w.before args s = true := fun w h => atoms_spec (ws := Cond.code yX0_nextSequenceOf cX0_nextSequenceOf 2 (some .int) :: TT) B.pre w (List.mem_cons_of_mem _ h)
  have hown : s.vm.findClass RX0 = some m.cls := findClass_of_methodNamed B.named
  have hlocks := B.notSynchronized
  replace hW := Wd_self (sz := s.heap.size) hW
  generalize hAe : Am Y s.heap.size = A at hW hC ⊢
  have hA : ∀ q : Nat, s.heap.size ≤ q → A q := fun q h => by rw [← hAe]; exact Or.inr h
  clear hAe
  have hS : va_S A s.heap s.heap [] := va_S.rf
  obtain ⟨ls, hE, hl⟩ := gm_entry m [.ref v0, .int v1] (n := 2) hargs (Nat.le_of_ble_eq_true rfl)
  rw [hE]
  have hl : lv_has ls 2 [(0, .ref v0), (1, .int v1)] := hl
  show W p l e rm_X0_nextSequenceOf s m args below meth c s.heap [] 0 0 (MQ below (va_Qi Kn (BG D cy A Y) A) args s 0 0 A) (F0 m 0 ls [])
  unfold f_X0_nextSequenceOf at hf
  refine lv_aload_n hx hb dX0_nextSequenceOf_0 rfl (lv_at hl 0 rfl) ?_
  refine lv_iload_n hx hb dX0_nextSequenceOf_1 rfl (lv_at hl 1 rfl) ?_
  refine gm_ci (va_runS (As := [.ref v0, .int v1]) (rest := []) ⟨hx, hb, hml, hown, hts⟩ (m_X0_sequenceOf l D cy tq _ Y _ _ _ _) (va_cwS 2 hts (good_S kw_888 kw_809 kw_20 kw_810) rfl rfl rfl (by decide +kernel) ⟨Nat.le_of_ble_eq_true rfl, Nat.le_of_ble_eq_true rfl⟩) (gm_preS hK hW hC hS hA hf) rfl rfl hl.1 rfl (lv_room (Nat.le_of_ble_eq_true rfl)) dX0_nextSequenceOf_2 ⟨Nat.le_of_ble_eq_true rfl, Nat.le_of_ble_eq_true rfl⟩) hW hS hA (fun r2 M1 H locs hW hS hf => ?_)
  refine lv_aload_n hx hb dX0_nextSequenceOf_5 rfl (lv_at hl 0 rfl) ?_
  refine lv_iload_n hx hb dX0_nextSequenceOf_6 rfl (lv_at hl 1 rfl) ?_
  refine gm_ci (va_runS (As := [.ref v0, .int v1]) (rest := [.int r2]) ⟨hx, hb, hml, hown, hts⟩ (m_X0_lastOf l D cy tq _ Y _ _ _ _) (va_cwS 2 hts (good_S kw_889 kw_792 kw_20 kw_793) rfl rfl rfl (by decide +kernel) ⟨Nat.le_of_ble_eq_true rfl, Nat.le_of_ble_eq_true rfl⟩) (gm_preS hK hW hC hS hA hf) rfl rfl hl.1 rfl (lv_room (Nat.le_of_ble_eq_true rfl)) dX0_nextSequenceOf_7 ⟨Nat.le_of_ble_eq_true rfl, Nat.le_of_ble_eq_true rfl⟩) hW hS hA (fun r4 M3 H locs hW hS hf => ?_)
  refine lv_iadd hx hb dX0_nextSequenceOf_10 ?_
  refine lv_iconst (v := 1) hx hb dX0_nextSequenceOf_11 (by decide +kernel) ?_
  refine lv_iadd hx hb dX0_nextSequenceOf_12 ?_
  refine lv_ldc (v := 2147483647) hx hb hown (hts _ kw_890) dX0_nextSequenceOf_13 ?_
  refine lv_iand hx hb dX0_nextSequenceOf_15 ?_
  exact gm_iret hx hb hr hlocks hW hS hf dX0_nextSequenceOf_16

abbrev rm_X0_hasTrueChecksum : Room := { frames := 4, cells := 0, slots := 0, locals := 128 }
def f_X0_hasTrueChecksum_29 (Y : Ly) (Kn : Int32 → Mm → Prop) (M3 : Mm) (y5 : Int32) : Prop :=
  bz y5 ∧ Kn y5 M3
def f_X0_hasTrueChecksum (Y : Ly) (v0 : Nat) (v1 : Int32) (v2 : Int32) (M : Mm) (Kn : Int32 → Mm → Prop) : Prop :=
  f_X1_signed Y v0 (v1 + 17) 4 M (fun r2 M1 => (f_X1_checksum Y v0 (v1 + 21) (v1 + v2) M1 (fun r4 M3 => ((¬ r2.toInt32 = r4 → (f_X0_hasTrueChecksum_29 Y Kn M3 0)) ∧ (r2.toInt32 = r4 → (f_X0_hasTrueChecksum_29 Y Kn M3 1))))))
set_option maxHeartbeats 4000000 in
set_option maxRecDepth 100000 in
theorem m_X0_hasTrueChecksum (l : Launch) (D : va_G) (cy : Cy) (tq sz : Nat) (Y : Ly) (v0 : Nat) (v1 : Int32) (v2 : Int32) (M : Mm) (Kn : Int32 → Mm → Prop) : Met l yX0_hasTrueChecksum (Cond.code yX0_hasTrueChecksum cX0_hasTrueChecksum 3 (some .boolean) :: TT) rm_X0_hasTrueChecksum (PcG D cy tq [.ref v0, .int v1, .int v2] sz Y M (f_X0_hasTrueChecksum Y v0 v1 v2 M Kn)) (va_Qi Kn (BG D cy (Am Y sz) Y) (Am Y sz)) 0 0 (Am Y sz) := by
  refine Met.ofW (cc := cX0_hasTrueChecksum) (maxL := 3) (ret := (some .boolean)) (by decide) rfl ?_
  intro p e s m args below meth c s₁ B hml hv
  obtain ⟨hargs, hsz, hW, hK, hC, hf⟩ := hv
  subst hsz
  have hx := B.exec
  have hb := B.bytes
  have hr := B.returns
  have hts : ∀ w ∈ TT, w.before args s = true := fun w h => atoms_spec (ws := Cond.code yX0_hasTrueChecksum cX0_hasTrueChecksum 3 (some .boolean) :: TT) B.pre w (List.mem_cons_of_mem _ h)
  have hown : s.vm.findClass RX0 = some m.cls := findClass_of_methodNamed B.named
  have hlocks := B.notSynchronized
  replace hW := Wd_self (sz := s.heap.size) hW
  generalize hAe : Am Y s.heap.size = A at hW hC ⊢
  have hA : ∀ q : Nat, s.heap.size ≤ q → A q := fun q h => by rw [← hAe]; exact Or.inr h
  clear hAe
  have hS : va_S A s.heap s.heap [] := va_S.rf
  obtain ⟨ls, hE, hl⟩ := gm_entry m [.ref v0, .int v1, .int v2] (n := 3) hargs (Nat.le_of_ble_eq_true rfl)
  rw [hE]
  have hl : lv_has ls 3 [(0, .ref v0), (1, .int v1), (2, .int v2)] := hl
  show W p l e rm_X0_hasTrueChecksum s m args below meth c s.heap [] 0 0 (MQ below (va_Qi Kn (BG D cy A Y) A) args s 0 0 A) (F0 m 0 ls [])
  unfold f_X0_hasTrueChecksum at hf
  refine lv_aload_n hx hb dX0_hasTrueChecksum_0 rfl (lv_at hl 0 rfl) ?_
  refine lv_iload_n hx hb dX0_hasTrueChecksum_1 rfl (lv_at hl 1 rfl) ?_
  refine lv_bipush (v := 17) hx hb dX0_hasTrueChecksum_2 (by decide +kernel) ?_
  refine lv_iadd hx hb dX0_hasTrueChecksum_4 ?_
  refine lv_iconst (v := 4) hx hb dX0_hasTrueChecksum_5 (by decide +kernel) ?_
  refine gm_cl (va_runS (As := [.ref v0, .int (v1 + 17), .int 4]) (rest := []) ⟨hx, hb, hml, hown, hts⟩ (m_X1_signed l D cy tq _ Y _ _ _ _ _) (va_cwS 3 hts (good_S kw_357 kw_329 kw_17 kw_330) rfl rfl rfl (by decide +kernel) ⟨Nat.le_of_ble_eq_true rfl, Nat.le_of_ble_eq_true rfl⟩) (gm_preS hK hW hC hS hA hf) rfl rfl hl.1 rfl (lv_room (Nat.le_of_ble_eq_true rfl)) dX0_hasTrueChecksum_6 ⟨Nat.le_of_ble_eq_true rfl, Nat.le_of_ble_eq_true rfl⟩) hW hS hA (fun r2 M1 H locs hW hS hf => ?_)
  refine lv_l2i hx hb dX0_hasTrueChecksum_9 rfl ?_
  refine lv_aload_n hx hb dX0_hasTrueChecksum_10 rfl (lv_at hl 0 rfl) ?_
  refine lv_iload_n hx hb dX0_hasTrueChecksum_11 rfl (lv_at hl 1 rfl) ?_
  refine lv_bipush (v := 21) hx hb dX0_hasTrueChecksum_12 (by decide +kernel) ?_
  refine lv_iadd hx hb dX0_hasTrueChecksum_14 ?_
  refine lv_iload_n hx hb dX0_hasTrueChecksum_15 rfl (lv_at hl 1 rfl) ?_
  refine lv_iload_n hx hb dX0_hasTrueChecksum_16 rfl (lv_at hl 2 rfl) ?_
  refine lv_iadd hx hb dX0_hasTrueChecksum_17 ?_
  refine gm_ci (va_runS (As := [.ref v0, .int (v1 + 21), .int (v1 + v2)]) (rest := [.int r2.toInt32]) ⟨hx, hb, hml, hown, hts⟩ (m_X1_checksum l D cy tq _ Y _ _ _ _ _) (va_cwS 3 hts (good_S kw_755 kw_756 kw_17 kw_757) rfl rfl rfl (by decide +kernel) ⟨Nat.le_of_ble_eq_true rfl, Nat.le_of_ble_eq_true rfl⟩) (gm_preS hK hW hC hS hA hf) rfl rfl hl.1 rfl (lv_room (Nat.le_of_ble_eq_true rfl)) dX0_hasTrueChecksum_18 ⟨Nat.le_of_ble_eq_true rfl, Nat.le_of_ble_eq_true rfl⟩) hW hS hA (fun r4 M3 H locs hW hS hf => ?_)
  have j29 : ∀ (y5 : Int32) (H : Heap) (locs : List Loc) (ls : Array Slot), lv_has ls 3 [] → Wd D cy A Y M3 H → va_S A s.heap H locs → f_X0_hasTrueChecksum_29 Y Kn M3 y5 → W p l e rm_X0_hasTrueChecksum s m args below meth c H locs 0 0 (MQ below (va_Qi Kn (BG D cy A Y) A) args s 0 0 A) (F0 m 29 ls [.int y5]) := by
    intro y5 H locs ls hl hW hS hf
    unfold f_X0_hasTrueChecksum_29 at hf
    exact gm_zret hx hb hr hlocks hW hS hf.1 hf.2 dX0_hasTrueChecksum_29
  refine lv_icmp_ne (tgt := 28) hx hb dX0_hasTrueChecksum_21 (by decide) (fun c6 => ?_) (fun c6 => ?_)
  · replace hf := hf.1 c6
    refine lv_iconst (v := 0) hx hb dX0_hasTrueChecksum_28 (by decide +kernel) ?_
    exact j29 _ _ _ _ (lv_sub hl [] rfl) hW hS hf
  · replace hf := hf.2 c6
    refine lv_iconst (v := 1) hx hb dX0_hasTrueChecksum_24 (by decide +kernel) ?_
    refine lv_goto (tgt := 29) hx hb dX0_hasTrueChecksum_25 (by decide) ?_
    exact j29 _ _ _ _ (lv_sub hl [] rfl) hW hS hf

abbrev rm_X0_begin : Room := { frames := 4, cells := 0, slots := 0, locals := 126 }
def f_X0_begin (Y : Ly) (v0 : Nat) (v1 : Int32) (v2 : Int32) (v3 : Int64) (v5 : Int64) (M : Mm) (Kn : Mm → Prop) : Prop :=
  f_J7_fill_eb02e Y v0 v1 (v1 + 61) 0 M (fun M1 => (yK Y v0 = 100 ∧ (vp_in (v1 + 16) (yN Y v0) ∧ (∀ M4 : Mm, M4 = sI M1 v0 (m1 (mI M1 v0) (v1 + 16).toNatClampNeg ((2 : Int32).toInt8.toInt32)) → (f_X1_put Y v0 (v1 + 23) 4 ((v2 - 1).toInt64) M4 (fun M5 => (f_X1_put Y v0 (v1 + 27) 8 v3 M5 (fun M6 => (f_X1_put Y v0 (v1 + 35) 8 v5 M6 (fun M7 => (f_X1_put Y v0 (v1 + 57) 4 v2.toInt64 M7 (fun M8 => (Kn M8)))))))))))))
set_option maxHeartbeats 4000000 in
set_option maxRecDepth 100000 in
theorem m_X0_begin (l : Launch) (D : va_G) (cy : Cy) (tq sz : Nat) (Y : Ly) (v0 : Nat) (v1 : Int32) (v2 : Int32) (v3 : Int64) (v5 : Int64) (M : Mm) (Kn : Mm → Prop) : Met l yX0_begin (Cond.code yX0_begin cX0_begin 7 none :: TT) rm_X0_begin (PcG D cy tq [.ref v0, .int v1, .int v2, .long v3, .long v5] sz Y M (f_X0_begin Y v0 v1 v2 v3 v5 M Kn)) (va_Qv Kn (BG D cy (Am Y sz) Y) (Am Y sz)) 0 0 (Am Y sz) := by
  refine Met.ofW (cc := cX0_begin) (maxL := 7) (ret := none) (by decide) rfl ?_
  intro p e s m args below meth c s₁ B hml hv
  obtain ⟨hargs, hsz, hW, hK, hC, hf⟩ := hv
  subst hsz
  have hx := B.exec
  have hb := B.bytes
  have hr := B.returns
  have hts : ∀ w ∈ TT, w.before args s = true := fun w h => atoms_spec (ws := Cond.code yX0_begin cX0_begin 7 none :: TT) B.pre w (List.mem_cons_of_mem _ h)
  have hown : s.vm.findClass RX0 = some m.cls := findClass_of_methodNamed B.named
  have hlocks := B.notSynchronized
  replace hW := Wd_self (sz := s.heap.size) hW
  generalize hAe : Am Y s.heap.size = A at hW hC ⊢
  have hA : ∀ q : Nat, s.heap.size ≤ q → A q := fun q h => by rw [← hAe]; exact Or.inr h
  clear hAe
  have hS : va_S A s.heap s.heap [] := va_S.rf
  obtain ⟨ls, hE, hl⟩ := gm_entry m [.ref v0, .int v1, .int v2, .long v3, .long v5] (n := 7) hargs (Nat.le_of_ble_eq_true rfl)
  rw [hE]
  have hl : lv_has ls 7 [(0, .ref v0), (1, .int v1), (2, .int v2), (3, .long v3), (5, .long v5)] := hl
  show W p l e rm_X0_begin s m args below meth c s.heap [] 0 0 (MQ below (va_Qv Kn (BG D cy A Y) A) args s 0 0 A) (F0 m 0 ls [])
  unfold f_X0_begin at hf
  refine lv_aload_n hx hb dX0_begin_0 rfl (lv_at hl 0 rfl) ?_
  refine lv_iload_n hx hb dX0_begin_1 rfl (lv_at hl 1 rfl) ?_
  refine lv_iload_n hx hb dX0_begin_2 rfl (lv_at hl 1 rfl) ?_
  refine lv_bipush (v := 61) hx hb dX0_begin_3 (by decide +kernel) ?_
  refine lv_iadd hx hb dX0_begin_5 ?_
  refine lv_iconst (v := 0) hx hb dX0_begin_6 (by decide +kernel) ?_
  refine gm_cv (va_runS (As := [.ref v0, .int v1, .int (v1 + 61), .int 0]) (rest := []) ⟨hx, hb, hml, hown, hts⟩ (m_J7_fill_eb02e l D cy tq _ Y _ _ _ _ _ _) (va_cwS 4 hts (good_S kw_538 kw_539 kw_21 kw_540) rfl rfl rfl (by decide +kernel) ⟨Nat.le_of_ble_eq_true rfl, Nat.le_of_ble_eq_true rfl⟩) (gm_preS hK hW hC hS hA hf) rfl rfl hl.1 rfl (lv_room (Nat.le_of_ble_eq_true rfl)) dX0_begin_7 ⟨Nat.le_of_ble_eq_true rfl, Nat.le_of_ble_eq_true rfl⟩) hW hS hA (fun M1 H locs hW hS hf => ?_)
  refine lv_aload_n hx hb dX0_begin_10 rfl (lv_at hl 0 rfl) ?_
  refine lv_iload_n hx hb dX0_begin_11 rfl (lv_at hl 1 rfl) ?_
  refine lv_bipush (v := 16) hx hb dX0_begin_12 (by decide +kernel) ?_
  refine lv_iadd hx hb dX0_begin_14 ?_
  refine lv_iconst (v := 2) hx hb dX0_begin_15 (by decide +kernel) ?_
  obtain ⟨k2, hf⟩ := hf
  obtain ⟨h3, hf⟩ := hf
  refine gm_bast hx hb hK hW hS k2 h3 dX0_begin_16 (fun H locs M4 eM4 hW hS => ?_)
  replace hf := hf M4 eM4
  refine lv_aload_n hx hb dX0_begin_17 rfl (lv_at hl 0 rfl) ?_
  refine lv_iload_n hx hb dX0_begin_18 rfl (lv_at hl 1 rfl) ?_
  refine lv_bipush (v := 23) hx hb dX0_begin_19 (by decide +kernel) ?_
  refine lv_iadd hx hb dX0_begin_21 ?_
  refine lv_iconst (v := 4) hx hb dX0_begin_22 (by decide +kernel) ?_
  refine lv_iload_n hx hb dX0_begin_23 rfl (lv_at hl 2 rfl) ?_
  refine lv_iconst (v := 1) hx hb dX0_begin_24 (by decide +kernel) ?_
  refine lv_isub hx hb dX0_begin_25 ?_
  refine lv_i2l hx hb dX0_begin_26 rfl ?_
  refine gm_cv (va_runS (As := [.ref v0, .int (v1 + 23), .int 4, .long ((v2 - 1).toInt64)]) (rest := []) ⟨hx, hb, hml, hown, hts⟩ (m_X1_put l D cy tq _ Y _ _ _ _ _ _) (va_cwS 4 hts (good_S kw_748 kw_450 kw_17 kw_451) rfl rfl rfl (by decide +kernel) ⟨Nat.le_of_ble_eq_true rfl, Nat.le_of_ble_eq_true rfl⟩) (gm_preS hK hW hC hS hA hf) rfl rfl hl.1 rfl (lv_room (Nat.le_of_ble_eq_true rfl)) dX0_begin_27 ⟨Nat.le_of_ble_eq_true rfl, Nat.le_of_ble_eq_true rfl⟩) hW hS hA (fun M5 H locs hW hS hf => ?_)
  refine lv_aload_n hx hb dX0_begin_30 rfl (lv_at hl 0 rfl) ?_
  refine lv_iload_n hx hb dX0_begin_31 rfl (lv_at hl 1 rfl) ?_
  refine lv_bipush (v := 27) hx hb dX0_begin_32 (by decide +kernel) ?_
  refine lv_iadd hx hb dX0_begin_34 ?_
  refine lv_bipush (v := 8) hx hb dX0_begin_35 (by decide +kernel) ?_
  refine lv_lload_n hx hb dX0_begin_37 rfl (lv_at hl 3 rfl) ?_
  refine gm_cv (va_runS (As := [.ref v0, .int (v1 + 27), .int 8, .long v3]) (rest := []) ⟨hx, hb, hml, hown, hts⟩ (m_X1_put l D cy tq _ Y _ _ _ _ _ _) (va_cwS 4 hts (good_S kw_748 kw_450 kw_17 kw_451) rfl rfl rfl (by decide +kernel) ⟨Nat.le_of_ble_eq_true rfl, Nat.le_of_ble_eq_true rfl⟩) (gm_preS hK hW hC hS hA hf) rfl rfl hl.1 rfl (lv_room (Nat.le_of_ble_eq_true rfl)) dX0_begin_38 ⟨Nat.le_of_ble_eq_true rfl, Nat.le_of_ble_eq_true rfl⟩) hW hS hA (fun M6 H locs hW hS hf => ?_)
  refine lv_aload_n hx hb dX0_begin_41 rfl (lv_at hl 0 rfl) ?_
  refine lv_iload_n hx hb dX0_begin_42 rfl (lv_at hl 1 rfl) ?_
  refine lv_bipush (v := 35) hx hb dX0_begin_43 (by decide +kernel) ?_
  refine lv_iadd hx hb dX0_begin_45 ?_
  refine lv_bipush (v := 8) hx hb dX0_begin_46 (by decide +kernel) ?_
  refine lv_lload hx hb dX0_begin_48 (lv_at hl 4 rfl) ?_
  refine gm_cv (va_runS (As := [.ref v0, .int (v1 + 35), .int 8, .long v5]) (rest := []) ⟨hx, hb, hml, hown, hts⟩ (m_X1_put l D cy tq _ Y _ _ _ _ _ _) (va_cwS 4 hts (good_S kw_748 kw_450 kw_17 kw_451) rfl rfl rfl (by decide +kernel) ⟨Nat.le_of_ble_eq_true rfl, Nat.le_of_ble_eq_true rfl⟩) (gm_preS hK hW hC hS hA hf) rfl rfl hl.1 rfl (lv_room (Nat.le_of_ble_eq_true rfl)) dX0_begin_50 ⟨Nat.le_of_ble_eq_true rfl, Nat.le_of_ble_eq_true rfl⟩) hW hS hA (fun M7 H locs hW hS hf => ?_)
  refine lv_aload_n hx hb dX0_begin_53 rfl (lv_at hl 0 rfl) ?_
  refine lv_iload_n hx hb dX0_begin_54 rfl (lv_at hl 1 rfl) ?_
  refine lv_bipush (v := 57) hx hb dX0_begin_55 (by decide +kernel) ?_
  refine lv_iadd hx hb dX0_begin_57 ?_
  refine lv_iconst (v := 4) hx hb dX0_begin_58 (by decide +kernel) ?_
  refine lv_iload_n hx hb dX0_begin_59 rfl (lv_at hl 2 rfl) ?_
  refine lv_i2l hx hb dX0_begin_60 rfl ?_
  refine gm_cv (va_runS (As := [.ref v0, .int (v1 + 57), .int 4, .long v2.toInt64]) (rest := []) ⟨hx, hb, hml, hown, hts⟩ (m_X1_put l D cy tq _ Y _ _ _ _ _ _) (va_cwS 4 hts (good_S kw_748 kw_450 kw_17 kw_451) rfl rfl rfl (by decide +kernel) ⟨Nat.le_of_ble_eq_true rfl, Nat.le_of_ble_eq_true rfl⟩) (gm_preS hK hW hC hS hA hf) rfl rfl hl.1 rfl (lv_room (Nat.le_of_ble_eq_true rfl)) dX0_begin_61 ⟨Nat.le_of_ble_eq_true rfl, Nat.le_of_ble_eq_true rfl⟩) hW hS hA (fun M8 H locs hW hS hf => ?_)
  exact gm_vret hx hb hr hlocks hW hS hf dX0_begin_64

abbrev rm_X0_sign : Room := { frames := 3, cells := 0, slots := 0, locals := 105 }
def f_X0_sign (Y : Ly) (v0 : Nat) (v1 : Int32) (v2 : Int64) (v4 : Int32) (v5 : Int32) (M : Mm) (Kn : Mm → Prop) : Prop :=
  f_X1_put Y v0 (v1 + 43) 8 v2 M (fun M1 => (f_X1_put Y v0 (v1 + 51) 2 v4.toInt64 M1 (fun M2 => (f_X1_put Y v0 (v1 + 53) 4 v5.toInt64 M2 (fun M3 => (Kn M3))))))
set_option maxHeartbeats 4000000 in
set_option maxRecDepth 100000 in
theorem m_X0_sign (l : Launch) (D : va_G) (cy : Cy) (tq sz : Nat) (Y : Ly) (v0 : Nat) (v1 : Int32) (v2 : Int64) (v4 : Int32) (v5 : Int32) (M : Mm) (Kn : Mm → Prop) : Met l yX0_sign (Cond.code yX0_sign cX0_sign 6 none :: TT) rm_X0_sign (PcG D cy tq [.ref v0, .int v1, .long v2, .int v4, .int v5] sz Y M (f_X0_sign Y v0 v1 v2 v4 v5 M Kn)) (va_Qv Kn (BG D cy (Am Y sz) Y) (Am Y sz)) 0 0 (Am Y sz) := by
  refine Met.ofW (cc := cX0_sign) (maxL := 6) (ret := none) (by decide) rfl ?_
  intro p e s m args below meth c s₁ B hml hv
  obtain ⟨hargs, hsz, hW, hK, hC, hf⟩ := hv
  subst hsz
  have hx := B.exec
  have hb := B.bytes
  have hr := B.returns
  have hts : ∀ w ∈ TT, w.before args s = true := fun w h => atoms_spec (ws := Cond.code yX0_sign cX0_sign 6 none :: TT) B.pre w (List.mem_cons_of_mem _ h)
  have hown : s.vm.findClass RX0 = some m.cls := findClass_of_methodNamed B.named
  have hlocks := B.notSynchronized
  replace hW := Wd_self (sz := s.heap.size) hW
  generalize hAe : Am Y s.heap.size = A at hW hC ⊢
  have hA : ∀ q : Nat, s.heap.size ≤ q → A q := fun q h => by rw [← hAe]; exact Or.inr h
  clear hAe
  have hS : va_S A s.heap s.heap [] := va_S.rf
  obtain ⟨ls, hE, hl⟩ := gm_entry m [.ref v0, .int v1, .long v2, .int v4, .int v5] (n := 6) hargs (Nat.le_of_ble_eq_true rfl)
  rw [hE]
  have hl : lv_has ls 6 [(0, .ref v0), (1, .int v1), (2, .long v2), (4, .int v4), (5, .int v5)] := hl
  show W p l e rm_X0_sign s m args below meth c s.heap [] 0 0 (MQ below (va_Qv Kn (BG D cy A Y) A) args s 0 0 A) (F0 m 0 ls [])
  unfold f_X0_sign at hf
  refine lv_aload_n hx hb dX0_sign_0 rfl (lv_at hl 0 rfl) ?_
  refine lv_iload_n hx hb dX0_sign_1 rfl (lv_at hl 1 rfl) ?_
  refine lv_bipush (v := 43) hx hb dX0_sign_2 (by decide +kernel) ?_
  refine lv_iadd hx hb dX0_sign_4 ?_
  refine lv_bipush (v := 8) hx hb dX0_sign_5 (by decide +kernel) ?_
  refine lv_lload_n hx hb dX0_sign_7 rfl (lv_at hl 2 rfl) ?_
  refine gm_cv (va_runS (As := [.ref v0, .int (v1 + 43), .int 8, .long v2]) (rest := []) ⟨hx, hb, hml, hown, hts⟩ (m_X1_put l D cy tq _ Y _ _ _ _ _ _) (va_cwS 4 hts (good_S kw_748 kw_450 kw_17 kw_451) rfl rfl rfl (by decide +kernel) ⟨Nat.le_of_ble_eq_true rfl, Nat.le_of_ble_eq_true rfl⟩) (gm_preS hK hW hC hS hA hf) rfl rfl hl.1 rfl (lv_room (Nat.le_of_ble_eq_true rfl)) dX0_sign_8 ⟨Nat.le_of_ble_eq_true rfl, Nat.le_of_ble_eq_true rfl⟩) hW hS hA (fun M1 H locs hW hS hf => ?_)
  refine lv_aload_n hx hb dX0_sign_11 rfl (lv_at hl 0 rfl) ?_
  refine lv_iload_n hx hb dX0_sign_12 rfl (lv_at hl 1 rfl) ?_
  refine lv_bipush (v := 51) hx hb dX0_sign_13 (by decide +kernel) ?_
  refine lv_iadd hx hb dX0_sign_15 ?_
  refine lv_iconst (v := 2) hx hb dX0_sign_16 (by decide +kernel) ?_
  refine lv_iload hx hb dX0_sign_17 (lv_at hl 3 rfl) ?_
  refine lv_i2l hx hb dX0_sign_19 rfl ?_
  refine gm_cv (va_runS (As := [.ref v0, .int (v1 + 51), .int 2, .long v4.toInt64]) (rest := []) ⟨hx, hb, hml, hown, hts⟩ (m_X1_put l D cy tq _ Y _ _ _ _ _ _) (va_cwS 4 hts (good_S kw_748 kw_450 kw_17 kw_451) rfl rfl rfl (by decide +kernel) ⟨Nat.le_of_ble_eq_true rfl, Nat.le_of_ble_eq_true rfl⟩) (gm_preS hK hW hC hS hA hf) rfl rfl hl.1 rfl (lv_room (Nat.le_of_ble_eq_true rfl)) dX0_sign_20 ⟨Nat.le_of_ble_eq_true rfl, Nat.le_of_ble_eq_true rfl⟩) hW hS hA (fun M2 H locs hW hS hf => ?_)
  refine lv_aload_n hx hb dX0_sign_23 rfl (lv_at hl 0 rfl) ?_
  refine lv_iload_n hx hb dX0_sign_24 rfl (lv_at hl 1 rfl) ?_
  refine lv_bipush (v := 53) hx hb dX0_sign_25 (by decide +kernel) ?_
  refine lv_iadd hx hb dX0_sign_27 ?_
  refine lv_iconst (v := 4) hx hb dX0_sign_28 (by decide +kernel) ?_
  refine lv_iload hx hb dX0_sign_29 (lv_at hl 4 rfl) ?_
  refine lv_i2l hx hb dX0_sign_31 rfl ?_
  refine gm_cv (va_runS (As := [.ref v0, .int (v1 + 53), .int 4, .long v5.toInt64]) (rest := []) ⟨hx, hb, hml, hown, hts⟩ (m_X1_put l D cy tq _ Y _ _ _ _ _ _) (va_cwS 4 hts (good_S kw_748 kw_450 kw_17 kw_451) rfl rfl rfl (by decide +kernel) ⟨Nat.le_of_ble_eq_true rfl, Nat.le_of_ble_eq_true rfl⟩) (gm_preS hK hW hC hS hA hf) rfl rfl hl.1 rfl (lv_room (Nat.le_of_ble_eq_true rfl)) dX0_sign_32 ⟨Nat.le_of_ble_eq_true rfl, Nat.le_of_ble_eq_true rfl⟩) hW hS hA (fun M3 H locs hW hS hf => ?_)
  exact gm_vret hx hb hr hlocks hW hS hf dX0_sign_35

abbrev rm_X0_recount : Room := { frames := 3, cells := 0, slots := 0, locals := 105 }
def f_X0_recount (Y : Ly) (v0 : Nat) (v1 : Int32) (v2 : Int32) (v3 : Int64) (M : Mm) (Kn : Mm → Prop) : Prop :=
  f_X1_put Y v0 (v1 + 35) 8 v3 M (fun M1 => (f_X1_put Y v0 (v1 + 57) 4 v2.toInt64 M1 (fun M2 => (Kn M2))))
set_option maxHeartbeats 4000000 in
set_option maxRecDepth 100000 in
theorem m_X0_recount (l : Launch) (D : va_G) (cy : Cy) (tq sz : Nat) (Y : Ly) (v0 : Nat) (v1 : Int32) (v2 : Int32) (v3 : Int64) (M : Mm) (Kn : Mm → Prop) : Met l yX0_recount (Cond.code yX0_recount cX0_recount 5 none :: TT) rm_X0_recount (PcG D cy tq [.ref v0, .int v1, .int v2, .long v3] sz Y M (f_X0_recount Y v0 v1 v2 v3 M Kn)) (va_Qv Kn (BG D cy (Am Y sz) Y) (Am Y sz)) 0 0 (Am Y sz) := by
  refine Met.ofW (cc := cX0_recount) (maxL := 5) (ret := none) (by decide) rfl ?_
  intro p e s m args below meth c s₁ B hml hv
  obtain ⟨hargs, hsz, hW, hK, hC, hf⟩ := hv
  subst hsz
  have hx := B.exec
  have hb := B.bytes
  have hr := B.returns
  have hts : ∀ w ∈ TT, w.before args s = true := fun w h => atoms_spec (ws := Cond.code yX0_recount cX0_recount 5 none :: TT) B.pre w (List.mem_cons_of_mem _ h)
  have hown : s.vm.findClass RX0 = some m.cls := findClass_of_methodNamed B.named
  have hlocks := B.notSynchronized
  replace hW := Wd_self (sz := s.heap.size) hW
  generalize hAe : Am Y s.heap.size = A at hW hC ⊢
  have hA : ∀ q : Nat, s.heap.size ≤ q → A q := fun q h => by rw [← hAe]; exact Or.inr h
  clear hAe
  have hS : va_S A s.heap s.heap [] := va_S.rf
  obtain ⟨ls, hE, hl⟩ := gm_entry m [.ref v0, .int v1, .int v2, .long v3] (n := 5) hargs (Nat.le_of_ble_eq_true rfl)
  rw [hE]
  have hl : lv_has ls 5 [(0, .ref v0), (1, .int v1), (2, .int v2), (3, .long v3)] := hl
  show W p l e rm_X0_recount s m args below meth c s.heap [] 0 0 (MQ below (va_Qv Kn (BG D cy A Y) A) args s 0 0 A) (F0 m 0 ls [])
  unfold f_X0_recount at hf
  refine lv_aload_n hx hb dX0_recount_0 rfl (lv_at hl 0 rfl) ?_
  refine lv_iload_n hx hb dX0_recount_1 rfl (lv_at hl 1 rfl) ?_
  refine lv_bipush (v := 35) hx hb dX0_recount_2 (by decide +kernel) ?_
  refine lv_iadd hx hb dX0_recount_4 ?_
  refine lv_bipush (v := 8) hx hb dX0_recount_5 (by decide +kernel) ?_
  refine lv_lload_n hx hb dX0_recount_7 rfl (lv_at hl 3 rfl) ?_
  refine gm_cv (va_runS (As := [.ref v0, .int (v1 + 35), .int 8, .long v3]) (rest := []) ⟨hx, hb, hml, hown, hts⟩ (m_X1_put l D cy tq _ Y _ _ _ _ _ _) (va_cwS 4 hts (good_S kw_748 kw_450 kw_17 kw_451) rfl rfl rfl (by decide +kernel) ⟨Nat.le_of_ble_eq_true rfl, Nat.le_of_ble_eq_true rfl⟩) (gm_preS hK hW hC hS hA hf) rfl rfl hl.1 rfl (lv_room (Nat.le_of_ble_eq_true rfl)) dX0_recount_8 ⟨Nat.le_of_ble_eq_true rfl, Nat.le_of_ble_eq_true rfl⟩) hW hS hA (fun M1 H locs hW hS hf => ?_)
  refine lv_aload_n hx hb dX0_recount_11 rfl (lv_at hl 0 rfl) ?_
  refine lv_iload_n hx hb dX0_recount_12 rfl (lv_at hl 1 rfl) ?_
  refine lv_bipush (v := 57) hx hb dX0_recount_13 (by decide +kernel) ?_
  refine lv_iadd hx hb dX0_recount_15 ?_
  refine lv_iconst (v := 4) hx hb dX0_recount_16 (by decide +kernel) ?_
  refine lv_iload_n hx hb dX0_recount_17 rfl (lv_at hl 2 rfl) ?_
  refine lv_i2l hx hb dX0_recount_18 rfl ?_
  refine gm_cv (va_runS (As := [.ref v0, .int (v1 + 57), .int 4, .long v2.toInt64]) (rest := []) ⟨hx, hb, hml, hown, hts⟩ (m_X1_put l D cy tq _ Y _ _ _ _ _ _) (va_cwS 4 hts (good_S kw_748 kw_450 kw_17 kw_451) rfl rfl rfl (by decide +kernel) ⟨Nat.le_of_ble_eq_true rfl, Nat.le_of_ble_eq_true rfl⟩) (gm_preS hK hW hC hS hA hf) rfl rfl hl.1 rfl (lv_room (Nat.le_of_ble_eq_true rfl)) dX0_recount_19 ⟨Nat.le_of_ble_eq_true rfl, Nat.le_of_ble_eq_true rfl⟩) hW hS hA (fun M2 H locs hW hS hf => ?_)
  exact gm_vret hx hb hr hlocks hW hS hf dX0_recount_22

abbrev rm_X0_finish : Room := { frames := 3, cells := 0, slots := 0, locals := 105 }
def f_X0_finish (Y : Ly) (v0 : Nat) (v1 : Int32) (v2 : Int32) (M : Mm) (Kn : Mm → Prop) : Prop :=
  f_X1_put Y v0 (v1 + 8) 4 ((v2 - 12).toInt64) M (fun M1 => (f_X1_checksum Y v0 (v1 + 21) (v1 + v2) M1 (fun r3 M2 => (f_X1_put Y v0 (v1 + 17) 4 r3.toInt64 M2 (fun M4 => (Kn M4))))))
set_option maxHeartbeats 4000000 in
set_option maxRecDepth 100000 in
theorem m_X0_finish (l : Launch) (D : va_G) (cy : Cy) (tq sz : Nat) (Y : Ly) (v0 : Nat) (v1 : Int32) (v2 : Int32) (M : Mm) (Kn : Mm → Prop) : Met l yX0_finish (Cond.code yX0_finish cX0_finish 3 none :: TT) rm_X0_finish (PcG D cy tq [.ref v0, .int v1, .int v2] sz Y M (f_X0_finish Y v0 v1 v2 M Kn)) (va_Qv Kn (BG D cy (Am Y sz) Y) (Am Y sz)) 0 0 (Am Y sz) := by
  refine Met.ofW (cc := cX0_finish) (maxL := 3) (ret := none) (by decide) rfl ?_
  intro p e s m args below meth c s₁ B hml hv
  obtain ⟨hargs, hsz, hW, hK, hC, hf⟩ := hv
  subst hsz
  have hx := B.exec
  have hb := B.bytes
  have hr := B.returns
  have hts : ∀ w ∈ TT, w.before args s = true := fun w h => atoms_spec (ws := Cond.code yX0_finish cX0_finish 3 none :: TT) B.pre w (List.mem_cons_of_mem _ h)
  have hown : s.vm.findClass RX0 = some m.cls := findClass_of_methodNamed B.named
  have hlocks := B.notSynchronized
  replace hW := Wd_self (sz := s.heap.size) hW
  generalize hAe : Am Y s.heap.size = A at hW hC ⊢
  have hA : ∀ q : Nat, s.heap.size ≤ q → A q := fun q h => by rw [← hAe]; exact Or.inr h
  clear hAe
  have hS : va_S A s.heap s.heap [] := va_S.rf
  obtain ⟨ls, hE, hl⟩ := gm_entry m [.ref v0, .int v1, .int v2] (n := 3) hargs (Nat.le_of_ble_eq_true rfl)
  rw [hE]
  have hl : lv_has ls 3 [(0, .ref v0), (1, .int v1), (2, .int v2)] := hl
  show W p l e rm_X0_finish s m args below meth c s.heap [] 0 0 (MQ below (va_Qv Kn (BG D cy A Y) A) args s 0 0 A) (F0 m 0 ls [])
  unfold f_X0_finish at hf
  refine lv_aload_n hx hb dX0_finish_0 rfl (lv_at hl 0 rfl) ?_
  refine lv_iload_n hx hb dX0_finish_1 rfl (lv_at hl 1 rfl) ?_
  refine lv_bipush (v := 8) hx hb dX0_finish_2 (by decide +kernel) ?_
  refine lv_iadd hx hb dX0_finish_4 ?_
  refine lv_iconst (v := 4) hx hb dX0_finish_5 (by decide +kernel) ?_
  refine lv_iload_n hx hb dX0_finish_6 rfl (lv_at hl 2 rfl) ?_
  refine lv_bipush (v := 12) hx hb dX0_finish_7 (by decide +kernel) ?_
  refine lv_isub hx hb dX0_finish_9 ?_
  refine lv_i2l hx hb dX0_finish_10 rfl ?_
  refine gm_cv (va_runS (As := [.ref v0, .int (v1 + 8), .int 4, .long ((v2 - 12).toInt64)]) (rest := []) ⟨hx, hb, hml, hown, hts⟩ (m_X1_put l D cy tq _ Y _ _ _ _ _ _) (va_cwS 4 hts (good_S kw_748 kw_450 kw_17 kw_451) rfl rfl rfl (by decide +kernel) ⟨Nat.le_of_ble_eq_true rfl, Nat.le_of_ble_eq_true rfl⟩) (gm_preS hK hW hC hS hA hf) rfl rfl hl.1 rfl (lv_room (Nat.le_of_ble_eq_true rfl)) dX0_finish_11 ⟨Nat.le_of_ble_eq_true rfl, Nat.le_of_ble_eq_true rfl⟩) hW hS hA (fun M1 H locs hW hS hf => ?_)
  refine lv_aload_n hx hb dX0_finish_14 rfl (lv_at hl 0 rfl) ?_
  refine lv_iload_n hx hb dX0_finish_15 rfl (lv_at hl 1 rfl) ?_
  refine lv_bipush (v := 17) hx hb dX0_finish_16 (by decide +kernel) ?_
  refine lv_iadd hx hb dX0_finish_18 ?_
  refine lv_iconst (v := 4) hx hb dX0_finish_19 (by decide +kernel) ?_
  refine lv_aload_n hx hb dX0_finish_20 rfl (lv_at hl 0 rfl) ?_
  refine lv_iload_n hx hb dX0_finish_21 rfl (lv_at hl 1 rfl) ?_
  refine lv_bipush (v := 21) hx hb dX0_finish_22 (by decide +kernel) ?_
  refine lv_iadd hx hb dX0_finish_24 ?_
  refine lv_iload_n hx hb dX0_finish_25 rfl (lv_at hl 1 rfl) ?_
  refine lv_iload_n hx hb dX0_finish_26 rfl (lv_at hl 2 rfl) ?_
  refine lv_iadd hx hb dX0_finish_27 ?_
  refine gm_ci (va_runS (As := [.ref v0, .int (v1 + 21), .int (v1 + v2)]) (rest := [.int 4, .int (v1 + 17), .ref v0]) ⟨hx, hb, hml, hown, hts⟩ (m_X1_checksum l D cy tq _ Y _ _ _ _ _) (va_cwS 3 hts (good_S kw_755 kw_756 kw_17 kw_757) rfl rfl rfl (by decide +kernel) ⟨Nat.le_of_ble_eq_true rfl, Nat.le_of_ble_eq_true rfl⟩) (gm_preS hK hW hC hS hA hf) rfl rfl hl.1 rfl (lv_room (Nat.le_of_ble_eq_true rfl)) dX0_finish_28 ⟨Nat.le_of_ble_eq_true rfl, Nat.le_of_ble_eq_true rfl⟩) hW hS hA (fun r3 M2 H locs hW hS hf => ?_)
  refine lv_i2l hx hb dX0_finish_31 rfl ?_
  refine gm_cv (va_runS (As := [.ref v0, .int (v1 + 17), .int 4, .long r3.toInt64]) (rest := []) ⟨hx, hb, hml, hown, hts⟩ (m_X1_put l D cy tq _ Y _ _ _ _ _ _) (va_cwS 4 hts (good_S kw_748 kw_450 kw_17 kw_451) rfl rfl rfl (by decide +kernel) ⟨Nat.le_of_ble_eq_true rfl, Nat.le_of_ble_eq_true rfl⟩) (gm_preS hK hW hC hS hA hf) rfl rfl hl.1 rfl (lv_room (Nat.le_of_ble_eq_true rfl)) dX0_finish_32 ⟨Nat.le_of_ble_eq_true rfl, Nat.le_of_ble_eq_true rfl⟩) hW hS hA (fun M4 H locs hW hS hf => ?_)
  exact gm_vret hx hb hr hlocks hW hS hf dX0_finish_35

abbrev rm_X10_init : Room := { frames := 2, cells := 0, slots := 0, locals := 80 }
def f_X10_init (Y : Ly) (v0 : Nat) (M : Mm) (Kn : Ly → Mm → Prop) : Prop :=
  Kn Y M
set_option maxHeartbeats 4000000 in
set_option maxRecDepth 100000 in
theorem m_X10_init (l : Launch) (D : va_G) (cy : Cy) (tq sz : Nat) (Y : Ly) (v0 : Nat) (M : Mm) (Kn : Ly → Mm → Prop) : Met l yX10_init (Cond.code yX10_init cX10_init 1 none :: TT) rm_X10_init (PcG D cy tq [.ref v0] sz Y M (f_X10_init Y v0 M Kn)) (QA D cy (Am Y sz) Kn) 0 0 (Am Y sz) := by
  refine Met.ofW (cc := cX10_init) (maxL := 1) (ret := none) (by decide) rfl ?_
  intro p e s m args below meth c s₁ B hml hv
  obtain ⟨hargs, hsz, hW, hK, hC, hf⟩ := hv
  subst hsz
  have hx := B.exec
  have hb := B.bytes
  have hr := B.returns
  have hts : ∀ w ∈ TT, w.before args s = true := fun w h => atoms_spec (ws := Cond.code yX10_init cX10_init 1 none :: TT) B.pre w (List.mem_cons_of_mem _ h)
  have hown : s.vm.findClass RX10 = some m.cls := findClass_of_methodNamed B.named
  have hlocks := B.notSynchronized
  have hin : meth.name = "<init>" := (name_of_methodNamed B.named B.method).1
  replace hW := Wd_self (sz := s.heap.size) hW
  generalize hAe : Am Y s.heap.size = A at hW hC ⊢
  have hA : ∀ q : Nat, s.heap.size ≤ q → A q := fun q h => by rw [← hAe]; exact Or.inr h
  clear hAe
  have hS : va_S A s.heap s.heap [] := va_S.rf
  obtain ⟨ls, hE, hl⟩ := gm_entry m [.ref v0] (n := 1) hargs (Nat.le_of_ble_eq_true rfl)
  rw [hE]
  have hl : lv_has ls 1 [(0, .ref v0)] := hl
  show W p l e rm_X10_init s m args below meth c s.heap [] 0 0 (MQ below (QA D cy A Kn) args s 0 0 A) (F0 m 0 ls [])
  unfold f_X10_init at hf
  refine lv_aload_n hx hb dX10_init_0 rfl (lv_at hl 0 rfl) ?_
  refine W.objInit hx hb hown (hts _ kw_65) (hts _ kw_36) (hts _ kw_37) rfl (by rw [hml]; exact hl.1) rfl dX10_init_1 (Nat.le_of_ble_eq_true rfl) (Nat.le_of_ble_eq_true rfl) ?_
  refine W.eq (g2 := F0 m 4 ls []) rfl ?_
  refine W.widen (k := 0) (n := 0) (by omega) (by omega) ?_
  exact gm_vretA hx hb hr hlocks hW hS hf dX10_init_4

abbrev rm_X10_readVarint : Room := { frames := 2, cells := 0, slots := 0, locals := 80 }
def f_X10_readVarint_136 (Y : Ly) (v0 : Nat) (Kn : Int64 → Mm → Prop) (M3 : Mm) : Prop :=
  yK Y v0 = 10 ∧ (bz 0 ∧ (∀ M6 : Mm, M6 = sI M3 v0 (m1 (mI M3 v0) 7 0) → (Kn 0 M6)))
def f_X10_readVarint_118 (Y : Ly) (v0 : Nat) (Kn : Int64 → Mm → Prop) (M13 : Mm) (x14 : Int64) (y19 : Int32) : Prop :=
  bz y19 ∧ (∀ M21 : Mm, M21 = sI M13 v0 (m1 (mI M13 v0) 7 y19) → (Kn (((x14.toUInt64 >>> ((1 : Int32).toInt64.toUInt64 &&& Int64.toUInt64 63)).toInt64) ^^^ (-(x14 &&& 1))) M21))
def f_X10_readVarint_117 (Y : Ly) (v0 : Nat) (Kn : Int64 → Mm → Prop) (M13 : Mm) (x14 : Int64) : Prop :=
  f_X10_readVarint_118 Y v0 Kn M13 x14 0
def f_X10_readVarint_93 (Y : Ly) (v0 : Nat) (Kn : Int64 → Mm → Prop) (M13 : Mm) (x14 : Int64) (y17 : Int32) (y18 : Int32) : Prop :=
  ((mI M13 v0 7) = 0 → (f_X10_readVarint_117 Y v0 Kn M13 x14)) ∧ (¬ ((mI M13 v0 7) = 0) → ((¬ y17 = 0 → (f_X10_readVarint_117 Y v0 Kn M13 x14)) ∧ (y17 = 0 → ((¬ y18 = 0 → (f_X10_readVarint_117 Y v0 Kn M13 x14)) ∧ (y18 = 0 → (f_X10_readVarint_118 Y v0 Kn M13 x14 1))))))
def f_X10_readVarint_92 (Y : Ly) (v0 : Nat) (Kn : Int64 → Mm → Prop) (M13 : Mm) (x14 : Int64) (y17 : Int32) : Prop :=
  f_X10_readVarint_93 Y v0 Kn M13 x14 y17 0
def f_X10_readVarint_73 (Y : Ly) (v0 : Nat) (Kn : Int64 → Mm → Prop) (x2 : Int32) (x12 : Int32) (M13 : Mm) (x14 : Int64) (y17 : Int32) : Prop :=
  (¬ x2 = 9 → (f_X10_readVarint_92 Y v0 Kn M13 x14 y17)) ∧ (x2 = 9 → ((x12 = 1 → (f_X10_readVarint_92 Y v0 Kn M13 x14 y17)) ∧ (¬ (x12 = 1) → (f_X10_readVarint_93 Y v0 Kn M13 x14 y17 1))))
def f_X10_readVarint_72 (Y : Ly) (v0 : Nat) (Kn : Int64 → Mm → Prop) (x2 : Int32) (x12 : Int32) (M13 : Mm) (x14 : Int64) : Prop :=
  f_X10_readVarint_73 Y v0 Kn x2 x12 M13 x14 0
def L_X10_readVarint_5 (Y : Ly) (v0 : Nat) (v1 : Nat) (v2 : Int32) (Kn : Int64 → Mm → Prop) (x1 : Int64) (x2 : Int32) (M3 : Mm) (again5 : Int64 → Int32 → Mm → Prop) : Prop :=
  (10 ≤ x2 → (f_X10_readVarint_136 Y v0 Kn M3)) ∧ (¬ (10 ≤ x2) → (yK Y v0 = 10 ∧ ((v2 ≤ (mI M3 v0 6) → (f_X10_readVarint_136 Y v0 Kn M3)) ∧ (¬ (v2 ≤ (mI M3 v0 6)) → (yK Y v1 = 100 ∧ (vp_in (mI M3 v0 6) (yN Y v1) ∧ (∀ x12 : Int32, x12 = mI M3 v1 (mI M3 v0 6).toNatClampNeg → (∀ M13 : Mm, M13 = sI M3 v0 (m1 (mI M3 v0) 6 ((mI M3 v0 6) + 1)) → (∀ x14 : Int64, x14 = x1 ||| (((x12 &&& 127).toInt64) <<< ((7 * x2).toInt64 &&& 63)) → ((x12 < 0 → (∀ x16 : Int32, x16 = x2 + 1 → (again5 x14 x16 M13))) ∧ (¬ (x12 < 0) → ((x2 ≤ 0 → (f_X10_readVarint_72 Y v0 Kn x2 x12 M13 x14)) ∧ (¬ (x2 ≤ 0) → ((¬ x12 = 0 → (f_X10_readVarint_72 Y v0 Kn x2 x12 M13 x14)) ∧ (x12 = 0 → (f_X10_readVarint_73 Y v0 Kn x2 x12 M13 x14 1))))))))))))))))
def f_X10_readVarint (Y : Ly) (v0 : Nat) (v1 : Nat) (v2 : Int32) (M : Mm) (Kn : Int64 → Mm → Prop) : Prop :=
  ∃ n, LOOP3 (L_X10_readVarint_5 Y v0 v1 v2 Kn) n 0 0 M
set_option maxHeartbeats 4000000 in
set_option maxRecDepth 100000 in
theorem m_X10_readVarint (l : Launch) (D : va_G) (cy : Cy) (tq sz : Nat) (Y : Ly) (v0 : Nat) (v1 : Nat) (v2 : Int32) (M : Mm) (Kn : Int64 → Mm → Prop) : Met l yX10_readVarint (Cond.code yX10_readVarint cX10_readVarint 9 (some .long) :: TT) rm_X10_readVarint (PcG D cy tq [.ref v0, .ref v1, .int v2] sz Y M (f_X10_readVarint Y v0 v1 v2 M Kn)) (va_Ql Kn (BG D cy (Am Y sz) Y) (Am Y sz)) 0 0 (Am Y sz) := by
  refine Met.ofW (cc := cX10_readVarint) (maxL := 9) (ret := (some .long)) (by decide) rfl ?_
  intro p e s m args below meth c s₁ B hml hv
  obtain ⟨hargs, hsz, hW, hK, hC, hf⟩ := hv
  subst hsz
  have hx := B.exec
  have hb := B.bytes
  have hr := B.returns
  have hts : ∀ w ∈ TT, w.before args s = true := fun w h => atoms_spec (ws := Cond.code yX10_readVarint cX10_readVarint 9 (some .long) :: TT) B.pre w (List.mem_cons_of_mem _ h)
  have hown : s.vm.findClass RX10 = some m.cls := findClass_of_methodNamed B.named
  have hlocks := B.notSynchronized
  replace hW := Wd_self (sz := s.heap.size) hW
  generalize hAe : Am Y s.heap.size = A at hW hC ⊢
  have hA : ∀ q : Nat, s.heap.size ≤ q → A q := fun q h => by rw [← hAe]; exact Or.inr h
  clear hAe
  have hS : va_S A s.heap s.heap [] := va_S.rf
  obtain ⟨ls, hE, hl⟩ := gm_entry m [.ref v0, .ref v1, .int v2] (n := 9) hargs (Nat.le_of_ble_eq_true rfl)
  rw [hE]
  have hl : lv_has ls 9 [(0, .ref v0), (1, .ref v1), (2, .int v2)] := hl
  show W p l e rm_X10_readVarint s m args below meth c s.heap [] 0 0 (MQ below (va_Ql Kn (BG D cy A Y) A) args s 0 0 A) (F0 m 0 ls [])
  unfold f_X10_readVarint at hf
  refine lv_lconst (v := 0) hx hb dX10_readVarint_0 (by decide) ?_
  refine lv_lstore_n (lv' := [(3, .long 0), (0, .ref v0), (1, .ref v1), (2, .int v2)]) hx hb dX10_readVarint_1 rfl hl (by decide) rfl (fun ls hl => ?_)
  refine lv_iconst (v := 0) hx hb dX10_readVarint_2 (by decide +kernel) ?_
  refine lv_istore (lv' := [(5, .int 0), (3, .long 0), (0, .ref v0), (1, .ref v1), (2, .int v2)]) hx hb dX10_readVarint_3 hl (by decide) rfl (fun ls hl => ?_)
  obtain ⟨n5, hf⟩ := hf
  have lp5 : ∀ (n5 : Nat) (x1 : Int64) (x2 : Int32) (M3 : Mm) (H : Heap) (locs : List Loc) (ls : Array Slot), lv_has ls 9 [(0, .ref v0), (1, .ref v1), (2, .int v2), (3, .long x1), (5, .int x2)] → Wd D cy A Y M3 H → va_S A s.heap H locs → LOOP3 (L_X10_readVarint_5 Y v0 v1 v2 Kn) n5 x1 x2 M3 → W p l e rm_X10_readVarint s m args below meth c H locs 0 0 (MQ below (va_Ql Kn (BG D cy A Y) A) args s 0 0 A) (F0 m 5 ls []) := by
    intro n5
    induction n5 with
    | zero => intro x1 x2 M3 H locs ls hl hW hS hf; exact hf.elim
    | succ n5 ih5 =>
      intro x1 x2 M3 H locs ls hl hW hS hf
      replace hf : L_X10_readVarint_5 Y v0 v1 v2 Kn x1 x2 M3 (LOOP3 (L_X10_readVarint_5 Y v0 v1 v2 Kn) n5) := hf
      unfold L_X10_readVarint_5 at hf
      refine lv_iload hx hb dX10_readVarint_5 (lv_at hl 4 rfl) ?_
      refine lv_bipush (v := 10) hx hb dX10_readVarint_7 (by decide +kernel) ?_
      have j136 : ∀ (H : Heap) (locs : List Loc) (ls : Array Slot), lv_has ls 9 [(0, .ref v0)] → Wd D cy A Y M3 H → va_S A s.heap H locs → f_X10_readVarint_136 Y v0 Kn M3  → W p l e rm_X10_readVarint s m args below meth c H locs 0 0 (MQ below (va_Ql Kn (BG D cy A Y) A) args s 0 0 A) (F0 m 136 ls []) := by
        intro  H locs ls hl hW hS hf
        unfold f_X10_readVarint_136 at hf
        refine lv_aload_n hx hb dX10_readVarint_136 rfl (lv_at hl 0 rfl) ?_
        refine lv_iconst (v := 0) hx hb dX10_readVarint_137 (by decide +kernel) ?_
        obtain ⟨k4, hf⟩ := hf
        obtain ⟨z5, hf⟩ := hf
        refine gm_putI (C := RX10) (T := TX10) (N := 8) (j := 7) hx hb hts inT_10 tyX10 tyX10_ok nmX10 hown hK hW hS k4 (by decide) rfl (by decide) rfl (hts _ kw_91) rfl rfl (bz_n z5) (bz_f z5) dX10_readVarint_138 (fun H locs M6 eM6 hW hS => ?_)
        replace hf := hf M6 eM6
        refine lv_lconst (v := 0) hx hb dX10_readVarint_141 (by decide) ?_
        exact gm_lret hx hb hr hlocks hW hS hf dX10_readVarint_142
      refine lv_icmp_ge (tgt := 136) hx hb dX10_readVarint_9 (by decide) (fun c7 => ?_) (fun c7 => ?_)
      · replace hf := hf.1 c7
        exact j136  _ _ _ (lv_sub hl [0] rfl) hW hS hf
      · replace hf := hf.2 c7
        refine lv_aload_n hx hb dX10_readVarint_12 rfl (lv_at hl 0 rfl) ?_
        obtain ⟨k8, hf⟩ := hf
        refine gm_getI (C := RX10) (T := TX10) (N := 8) (j := 6) hx hb hts inT_10 hown hK hW k8 (by decide) rfl (by decide) rfl (hts _ kw_86) rfl dX10_readVarint_13 ?_
        refine lv_iload_n hx hb dX10_readVarint_16 rfl (lv_at hl 2 rfl) ?_
        refine lv_icmp_ge (tgt := 136) hx hb dX10_readVarint_17 (by decide) (fun c9 => ?_) (fun c9 => ?_)
        · replace hf := hf.1 c9
          exact j136  _ _ _ (lv_sub hl [0] rfl) hW hS hf
        · replace hf := hf.2 c9
          refine lv_aload_n hx hb dX10_readVarint_20 rfl (lv_at hl 1 rfl) ?_
          refine lv_aload_n hx hb dX10_readVarint_21 rfl (lv_at hl 0 rfl) ?_
          refine gm_getI (C := RX10) (T := TX10) (N := 8) (j := 6) hx hb hts inT_10 hown hK hW k8 (by decide) rfl (by decide) rfl (hts _ kw_86) rfl dX10_readVarint_22 ?_
          obtain ⟨k10, hf⟩ := hf
          obtain ⟨h11, hf⟩ := hf
          refine gm_bald hx hb hK hW k10 h11 dX10_readVarint_25 ?_
          refine lv_topi (fun x12 ex12 => ?_)
          replace hf := hf x12 ex12
          refine lv_istore (lv' := [(6, .int x12), (0, .ref v0), (1, .ref v1), (2, .int v2), (3, .long x1), (5, .int x2)]) hx hb dX10_readVarint_26 hl (by decide) rfl (fun ls hl => ?_)
          refine lv_aload_n hx hb dX10_readVarint_28 rfl (lv_at hl 1 rfl) ?_
          refine lv_dup hx hb dX10_readVarint_29 rfl ?_
          refine gm_getI (C := RX10) (T := TX10) (N := 8) (j := 6) hx hb hts inT_10 hown hK hW k8 (by decide) rfl (by decide) rfl (hts _ kw_86) rfl dX10_readVarint_30 ?_
          refine lv_iconst (v := 1) hx hb dX10_readVarint_33 (by decide +kernel) ?_
          refine lv_iadd hx hb dX10_readVarint_34 ?_
          refine gm_putI (C := RX10) (T := TX10) (N := 8) (j := 6) hx hb hts inT_10 tyX10 tyX10_ok nmX10 hown hK hW hS k8 (by decide) rfl (by decide) rfl (hts _ kw_86) rfl rfl rfl rfl dX10_readVarint_35 (fun H locs M13 eM13 hW hS => ?_)
          replace hf := hf M13 eM13
          refine lv_lload_n hx hb dX10_readVarint_38 rfl (lv_at hl 4 rfl) ?_
          refine lv_iload hx hb dX10_readVarint_39 (lv_at hl 0 rfl) ?_
          refine lv_bipush (v := 127) hx hb dX10_readVarint_41 (by decide +kernel) ?_
          refine lv_iand hx hb dX10_readVarint_43 ?_
          refine lv_i2l hx hb dX10_readVarint_44 rfl ?_
          refine lv_bipush (v := 7) hx hb dX10_readVarint_45 (by decide +kernel) ?_
          refine lv_iload hx hb dX10_readVarint_47 (lv_at hl 5 rfl) ?_
          refine lv_imul hx hb dX10_readVarint_49 ?_
          refine lv_lshl hx hb dX10_readVarint_50 rfl ?_
          refine lv_lor hx hb dX10_readVarint_51 ?_
          refine lv_topl (fun x14 ex14 => ?_)
          replace hf := hf x14 ex14
          refine lv_lstore_n (lv' := [(3, .long x14), (6, .int x12), (0, .ref v0), (1, .ref v1), (2, .int v2), (5, .int x2)]) hx hb dX10_readVarint_52 rfl hl (by decide) rfl (fun ls hl => ?_)
          refine lv_iload hx hb dX10_readVarint_53 (lv_at hl 1 rfl) ?_
          refine lv_if_lt (tgt := 130) hx hb dX10_readVarint_55 (by decide) (fun c15 => ?_) (fun c15 => ?_)
          · replace hf := hf.1 c15
            obtain ⟨x16, ex16⟩ : ∃ y : Int32, y = x2 + 1 := ⟨_, rfl⟩
            replace hf := hf x16 ex16
            refine lv_iinc (v := x16) (lv' := [(5, .int x16), (3, .long x14), (6, .int x12), (0, .ref v0), (1, .ref v1), (2, .int v2)]) hx hb dX10_readVarint_130 hl (k := 5) rfl (by rw [ex16]; rfl) (by decide) rfl (fun ls hl => ?_)
            refine lv_goto (tgt := 5) hx hb dX10_readVarint_133 (by decide) ?_
            exact ih5 _ _ _ _ _ _ (lv_sub hl [3, 4, 5, 1, 0] rfl) hW hS hf
          · replace hf := hf.2 c15
            refine lv_iload hx hb dX10_readVarint_58 (lv_at hl 5 rfl) ?_
            have j73 : ∀ (y17 : Int32) (H : Heap) (locs : List Loc) (ls : Array Slot), lv_has ls 9 [(0, .ref v0), (3, .long x14), (5, .int x2), (6, .int x12)] → Wd D cy A Y M13 H → va_S A s.heap H locs → f_X10_readVarint_73 Y v0 Kn x2 x12 M13 x14 y17 → W p l e rm_X10_readVarint s m args below meth c H locs 0 0 (MQ below (va_Ql Kn (BG D cy A Y) A) args s 0 0 A) (F0 m 73 ls [.int y17]) := by
              intro y17 H locs ls hl hW hS hf
              unfold f_X10_readVarint_73 at hf
              refine lv_istore (lv' := [(7, .int y17), (0, .ref v0), (3, .long x14), (5, .int x2), (6, .int x12)]) hx hb dX10_readVarint_73 hl (by decide) rfl (fun ls hl => ?_)
              refine lv_iload hx hb dX10_readVarint_75 (lv_at hl 3 rfl) ?_
              refine lv_bipush (v := 9) hx hb dX10_readVarint_77 (by decide +kernel) ?_
              have j93 : ∀ (y18 : Int32) (H : Heap) (locs : List Loc) (ls : Array Slot), lv_has ls 9 [(0, .ref v0), (3, .long x14), (7, .int y17)] → Wd D cy A Y M13 H → va_S A s.heap H locs → f_X10_readVarint_93 Y v0 Kn M13 x14 y17 y18 → W p l e rm_X10_readVarint s m args below meth c H locs 0 0 (MQ below (va_Ql Kn (BG D cy A Y) A) args s 0 0 A) (F0 m 93 ls [.int y18]) := by
                intro y18 H locs ls hl hW hS hf
                unfold f_X10_readVarint_93 at hf
                refine lv_istore (lv' := [(8, .int y18), (0, .ref v0), (3, .long x14), (7, .int y17)]) hx hb dX10_readVarint_93 hl (by decide) rfl (fun ls hl => ?_)
                refine lv_aload_n hx hb dX10_readVarint_95 rfl (lv_at hl 1 rfl) ?_
                refine lv_aload_n hx hb dX10_readVarint_96 rfl (lv_at hl 1 rfl) ?_
                refine gm_getI (C := RX10) (T := TX10) (N := 8) (j := 7) hx hb hts inT_10 hown hK hW k8 (by decide) rfl (by decide) rfl (hts _ kw_91) rfl dX10_readVarint_97 ?_
                have j118 : ∀ (y19 : Int32) (H : Heap) (locs : List Loc) (ls : Array Slot), lv_has ls 9 [(3, .long x14)] → Wd D cy A Y M13 H → va_S A s.heap H locs → f_X10_readVarint_118 Y v0 Kn M13 x14 y19 → W p l e rm_X10_readVarint s m args below meth c H locs 0 0 (MQ below (va_Ql Kn (BG D cy A Y) A) args s 0 0 A) (F0 m 118 ls [.int y19, .ref v0]) := by
                  intro y19 H locs ls hl hW hS hf
                  unfold f_X10_readVarint_118 at hf
                  obtain ⟨z20, hf⟩ := hf
                  refine gm_putI (C := RX10) (T := TX10) (N := 8) (j := 7) hx hb hts inT_10 tyX10 tyX10_ok nmX10 hown hK hW hS k8 (by decide) rfl (by decide) rfl (hts _ kw_91) rfl rfl (bz_n z20) (bz_f z20) dX10_readVarint_118 (fun H locs M21 eM21 hW hS => ?_)
                  replace hf := hf M21 eM21
                  refine lv_lload_n hx hb dX10_readVarint_121 rfl (lv_at hl 0 rfl) ?_
                  refine lv_iconst (v := 1) hx hb dX10_readVarint_122 (by decide +kernel) ?_
                  refine lv_lushr hx hb dX10_readVarint_123 rfl ?_
                  refine lv_lload_n hx hb dX10_readVarint_124 rfl (lv_at hl 0 rfl) ?_
                  refine lv_lconst (v := 1) hx hb dX10_readVarint_125 (by decide) ?_
                  refine lv_land hx hb dX10_readVarint_126 ?_
                  refine lv_lneg hx hb dX10_readVarint_127 ?_
                  refine lv_lxor hx hb dX10_readVarint_128 ?_
                  exact gm_lret hx hb hr hlocks hW hS hf dX10_readVarint_129
                have j117 : ∀ (H : Heap) (locs : List Loc) (ls : Array Slot), lv_has ls 9 [(3, .long x14)] → Wd D cy A Y M13 H → va_S A s.heap H locs → f_X10_readVarint_117 Y v0 Kn M13 x14  → W p l e rm_X10_readVarint s m args below meth c H locs 0 0 (MQ below (va_Ql Kn (BG D cy A Y) A) args s 0 0 A) (F0 m 117 ls [.ref v0]) := by
                  intro  H locs ls hl hW hS hf
                  unfold f_X10_readVarint_117 at hf
                  refine lv_iconst (v := 0) hx hb dX10_readVarint_117 (by decide +kernel) ?_
                  exact j118 _ _ _ _ (lv_sub hl [0] rfl) hW hS hf
                refine lv_if_eq (tgt := 117) hx hb dX10_readVarint_100 (by decide) (fun c22 => ?_) (fun c22 => ?_)
                · replace hf := hf.1 c22
                  exact j117  _ _ _ (lv_sub hl [2] rfl) hW hS hf
                · replace hf := hf.2 c22
                  refine lv_iload hx hb dX10_readVarint_103 (lv_at hl 3 rfl) ?_
                  refine lv_if_ne (tgt := 117) hx hb dX10_readVarint_105 (by decide) (fun c23 => ?_) (fun c23 => ?_)
                  · replace hf := hf.1 c23
                    exact j117  _ _ _ (lv_sub hl [2] rfl) hW hS hf
                  · replace hf := hf.2 c23
                    refine lv_iload hx hb dX10_readVarint_108 (lv_at hl 0 rfl) ?_
                    refine lv_if_ne (tgt := 117) hx hb dX10_readVarint_110 (by decide) (fun c24 => ?_) (fun c24 => ?_)
                    · replace hf := hf.1 c24
                      exact j117  _ _ _ (lv_sub hl [2] rfl) hW hS hf
                    · replace hf := hf.2 c24
                      refine lv_iconst (v := 1) hx hb dX10_readVarint_113 (by decide +kernel) ?_
                      refine lv_goto (tgt := 118) hx hb dX10_readVarint_114 (by decide) ?_
                      exact j118 _ _ _ _ (lv_sub hl [2] rfl) hW hS hf
              have j92 : ∀ (H : Heap) (locs : List Loc) (ls : Array Slot), lv_has ls 9 [(0, .ref v0), (3, .long x14), (7, .int y17)] → Wd D cy A Y M13 H → va_S A s.heap H locs → f_X10_readVarint_92 Y v0 Kn M13 x14 y17  → W p l e rm_X10_readVarint s m args below meth c H locs 0 0 (MQ below (va_Ql Kn (BG D cy A Y) A) args s 0 0 A) (F0 m 92 ls []) := by
                intro  H locs ls hl hW hS hf
                unfold f_X10_readVarint_92 at hf
                refine lv_iconst (v := 0) hx hb dX10_readVarint_92 (by decide +kernel) ?_
                exact j93 _ _ _ _ (lv_sub hl [0, 1, 2] rfl) hW hS hf
              refine lv_icmp_ne (tgt := 92) hx hb dX10_readVarint_79 (by decide) (fun c25 => ?_) (fun c25 => ?_)
              · replace hf := hf.1 c25
                exact j92  _ _ _ (lv_sub hl [1, 2, 0] rfl) hW hS hf
              · replace hf := hf.2 c25
                refine lv_iload hx hb dX10_readVarint_82 (lv_at hl 4 rfl) ?_
                refine lv_iconst (v := 1) hx hb dX10_readVarint_84 (by decide +kernel) ?_
                refine lv_icmp_eq (tgt := 92) hx hb dX10_readVarint_85 (by decide) (fun c26 => ?_) (fun c26 => ?_)
                · replace hf := hf.1 c26
                  exact j92  _ _ _ (lv_sub hl [1, 2, 0] rfl) hW hS hf
                · replace hf := hf.2 c26
                  refine lv_iconst (v := 1) hx hb dX10_readVarint_88 (by decide +kernel) ?_
                  refine lv_goto (tgt := 93) hx hb dX10_readVarint_89 (by decide) ?_
                  exact j93 _ _ _ _ (lv_sub hl [1, 2, 0] rfl) hW hS hf
            have j72 : ∀ (H : Heap) (locs : List Loc) (ls : Array Slot), lv_has ls 9 [(0, .ref v0), (3, .long x14), (5, .int x2), (6, .int x12)] → Wd D cy A Y M13 H → va_S A s.heap H locs → f_X10_readVarint_72 Y v0 Kn x2 x12 M13 x14  → W p l e rm_X10_readVarint s m args below meth c H locs 0 0 (MQ below (va_Ql Kn (BG D cy A Y) A) args s 0 0 A) (F0 m 72 ls []) := by
              intro  H locs ls hl hW hS hf
              unfold f_X10_readVarint_72 at hf
              refine lv_iconst (v := 0) hx hb dX10_readVarint_72 (by decide +kernel) ?_
              exact j73 _ _ _ _ (lv_sub hl [0, 1, 2, 3] rfl) hW hS hf
            refine lv_if_le (tgt := 72) hx hb dX10_readVarint_60 (by decide) (fun c27 => ?_) (fun c27 => ?_)
            · replace hf := hf.1 c27
              exact j72  _ _ _ (lv_sub hl [2, 0, 5, 1] rfl) hW hS hf
            · replace hf := hf.2 c27
              refine lv_iload hx hb dX10_readVarint_63 (lv_at hl 1 rfl) ?_
              refine lv_if_ne (tgt := 72) hx hb dX10_readVarint_65 (by decide) (fun c28 => ?_) (fun c28 => ?_)
              · replace hf := hf.1 c28
                exact j72  _ _ _ (lv_sub hl [2, 0, 5, 1] rfl) hW hS hf
              · replace hf := hf.2 c28
                refine lv_iconst (v := 1) hx hb dX10_readVarint_68 (by decide +kernel) ?_
                refine lv_goto (tgt := 73) hx hb dX10_readVarint_69 (by decide) ?_
                exact j73 _ _ _ _ (lv_sub hl [2, 0, 5, 1] rfl) hW hS hf
  exact lp5 n5 _ _ _ _ _ _ (lv_sub hl [2, 3, 4, 1, 0] rfl) hW hS hf

abbrev rm_X10_readText : Room := { frames := 3, cells := 0, slots := 0, locals := 108 }
def f_X10_readText_27 (Y : Ly) (v0 : Nat) (Kn : Int32 → Mm → Prop) (M1 : Mm) : Prop :=
  bz 0 ∧ (∀ M5 : Mm, M5 = sI M1 v0 (m1 (mI M1 v0) 7 0) → (Kn (-1) M5))
def f_X10_readText (Y : Ly) (v0 : Nat) (v1 : Nat) (v2 : Int32) (M : Mm) (Kn : Int32 → Mm → Prop) : Prop :=
  yK Y v0 = 10 ∧ (f_X10_readVarint Y v0 v1 v2 M (fun r2 M1 => ((r2 < (-1) → (f_X10_readText_27 Y v0 Kn M1)) ∧ (¬ (r2 < (-1)) → ((r2 ≤ ((v2 - (mI M1 v0 6)).toInt64) → (∀ M8 : Mm, M8 = sI M1 v0 (m1 (mI M1 v0) 6 ((mI M1 v0 6) + ((if 0 < r2 then r2 else 0).toInt32))) → (Kn r2.toInt32 M8))) ∧ (¬ (r2 ≤ ((v2 - (mI M1 v0 6)).toInt64)) → (f_X10_readText_27 Y v0 Kn M1)))))))
set_option maxHeartbeats 4000000 in
set_option maxRecDepth 100000 in
theorem m_X10_readText (l : Launch) (D : va_G) (cy : Cy) (tq sz : Nat) (Y : Ly) (v0 : Nat) (v1 : Nat) (v2 : Int32) (M : Mm) (Kn : Int32 → Mm → Prop) : Met l yX10_readText (Cond.code yX10_readText cX10_readText 5 (some .int) :: TT) rm_X10_readText (PcG D cy tq [.ref v0, .ref v1, .int v2] sz Y M (f_X10_readText Y v0 v1 v2 M Kn)) (va_Qi Kn (BG D cy (Am Y sz) Y) (Am Y sz)) 0 0 (Am Y sz) := by
  refine Met.ofW (cc := cX10_readText) (maxL := 5) (ret := (some .int)) (by decide) rfl ?_
  intro p e s m args below meth c s₁ B hml hv
  obtain ⟨hargs, hsz, hW, hK, hC, hf⟩ := hv
  subst hsz
  have hx := B.exec
  have hb := B.bytes
  have hr := B.returns
  have hts : ∀ w ∈ TT, w.before args s = true := fun w h => atoms_spec (ws := Cond.code yX10_readText cX10_readText 5 (some .int) :: TT) B.pre w (List.mem_cons_of_mem _ h)
  have hown : s.vm.findClass RX10 = some m.cls := findClass_of_methodNamed B.named
  have hlocks := B.notSynchronized
  replace hW := Wd_self (sz := s.heap.size) hW
  generalize hAe : Am Y s.heap.size = A at hW hC ⊢
  have hA : ∀ q : Nat, s.heap.size ≤ q → A q := fun q h => by rw [← hAe]; exact Or.inr h
  clear hAe
  have hS : va_S A s.heap s.heap [] := va_S.rf
  obtain ⟨ls, hE, hl⟩ := gm_entry m [.ref v0, .ref v1, .int v2] (n := 5) hargs (Nat.le_of_ble_eq_true rfl)
  rw [hE]
  have hl : lv_has ls 5 [(0, .ref v0), (1, .ref v1), (2, .int v2)] := hl
  show W p l e rm_X10_readText s m args below meth c s.heap [] 0 0 (MQ below (va_Qi Kn (BG D cy A Y) A) args s 0 0 A) (F0 m 0 ls [])
  unfold f_X10_readText at hf
  refine lv_aload_n hx hb dX10_readText_0 rfl (lv_at hl 0 rfl) ?_
  refine lv_aload_n hx hb dX10_readText_1 rfl (lv_at hl 1 rfl) ?_
  refine lv_iload_n hx hb dX10_readText_2 rfl (lv_at hl 2 rfl) ?_
  obtain ⟨k3, hf⟩ := hf
  refine gm_cl (va_runV (As := [.ref v1, .int v2]) (rest := []) ⟨hx, hb, hml, hown, hts⟩ (m_X10_readVarint l D cy tq _ Y _ _ _ _ _) (cwV 2 hts (good_V kw_822 kw_823 kw_1791 kw_4 kw_824) rfl rfl rfl (by decide +kernel) ⟨Nat.le_of_ble_eq_true rfl, Nat.le_of_ble_eq_true rfl⟩) (gm_preV hK hW hC hS hA k3 (by decide) (q := (RX10, TX10, 8)) rfl rfl hf) rfl rfl hl.1 rfl (lv_room (Nat.le_of_ble_eq_true rfl)) dX10_readText_3 ⟨Nat.le_of_ble_eq_true rfl, Nat.le_of_ble_eq_true rfl⟩) hW hS hA (fun r2 M1 H locs hW hS hf => ?_)
  refine lv_lstore_n (lv' := [(3, .long r2), (0, .ref v0), (1, .ref v1), (2, .int v2)]) hx hb dX10_readText_6 rfl hl (by decide) rfl (fun ls hl => ?_)
  refine lv_lload_n hx hb dX10_readText_7 rfl (lv_at hl 0 rfl) ?_
  refine lv_ldc2 (v := -1) hx hb hown (hts _ kw_831) dX10_readText_8 ?_
  refine W.lcmp hx hb dX10_readText_11 ?_
  have j27 : ∀ (H : Heap) (locs : List Loc) (ls : Array Slot), lv_has ls 5 [(0, .ref v0)] → Wd D cy A Y M1 H → va_S A s.heap H locs → f_X10_readText_27 Y v0 Kn M1  → W p l e rm_X10_readText s m args below meth c H locs 0 0 (MQ below (va_Qi Kn (BG D cy A Y) A) args s 0 0 A) (F0 m 27 ls []) := by
    intro  H locs ls hl hW hS hf
    unfold f_X10_readText_27 at hf
    refine lv_aload_n hx hb dX10_readText_27 rfl (lv_at hl 0 rfl) ?_
    refine lv_iconst (v := 0) hx hb dX10_readText_28 (by decide +kernel) ?_
    obtain ⟨z4, hf⟩ := hf
    refine gm_putI (C := RX10) (T := TX10) (N := 8) (j := 7) hx hb hts inT_10 tyX10 tyX10_ok nmX10 hown hK hW hS k3 (by decide) rfl (by decide) rfl (hts _ kw_91) rfl rfl (bz_n z4) (bz_f z4) dX10_readText_29 (fun H locs M5 eM5 hW hS => ?_)
    replace hf := hf M5 eM5
    refine lv_iconst (v := -1) hx hb dX10_readText_32 (by decide +kernel) ?_
    exact gm_iret hx hb hr hlocks hW hS hf dX10_readText_33
  refine lv_if_lt (tgt := 27) hx hb dX10_readText_12 (by decide) (fun c6 => ?_) (fun c6 => ?_)
  · replace hf := hf.1 (lg_lt.mp c6)
    exact j27  _ _ _ (lv_sub hl [1] rfl) hW hS hf
  · replace hf := hf.2 (fun z => c6 (lg_lt.mpr z))
    refine lv_lload_n hx hb dX10_readText_15 rfl (lv_at hl 0 rfl) ?_
    refine lv_iload_n hx hb dX10_readText_16 rfl (lv_at hl 3 rfl) ?_
    refine lv_aload_n hx hb dX10_readText_17 rfl (lv_at hl 1 rfl) ?_
    refine gm_getI (C := RX10) (T := TX10) (N := 8) (j := 6) hx hb hts inT_10 hown hK hW k3 (by decide) rfl (by decide) rfl (hts _ kw_86) rfl dX10_readText_18 ?_
    refine lv_isub hx hb dX10_readText_21 ?_
    refine lv_i2l hx hb dX10_readText_22 rfl ?_
    refine W.lcmp hx hb dX10_readText_23 ?_
    refine lv_if_le (tgt := 34) hx hb dX10_readText_24 (by decide) (fun c7 => ?_) (fun c7 => ?_)
    · replace hf := hf.1 (lg_le.mp c7)
      refine lv_aload_n hx hb dX10_readText_34 rfl (lv_at hl 1 rfl) ?_
      refine lv_dup hx hb dX10_readText_35 rfl ?_
      refine gm_getI (C := RX10) (T := TX10) (N := 8) (j := 6) hx hb hts inT_10 hown hK hW k3 (by decide) rfl (by decide) rfl (hts _ kw_86) rfl dX10_readText_36 ?_
      refine lv_lload_n hx hb dX10_readText_39 rfl (lv_at hl 0 rfl) ?_
      refine lv_lconst (v := 0) hx hb dX10_readText_40 (by decide) ?_
      refine va_mmax_long hx hb (by rw [hml]; exact hl.1.symm) hown (hts _ kw_832) (hts _ kw_381) (hts _ kw_6) (hts _ kmath_maxJ) (Nat.le_of_ble_eq_true rfl) (Nat.le_of_ble_eq_true rfl) (Nat.zero_le _) (Nat.zero_le _) dX10_readText_41 ?_
      refine lv_l2i hx hb dX10_readText_44 rfl ?_
      refine lv_iadd hx hb dX10_readText_45 ?_
      refine gm_putI (C := RX10) (T := TX10) (N := 8) (j := 6) hx hb hts inT_10 tyX10 tyX10_ok nmX10 hown hK hW hS k3 (by decide) rfl (by decide) rfl (hts _ kw_86) rfl rfl rfl rfl dX10_readText_46 (fun H locs M8 eM8 hW hS => ?_)
      replace hf := hf M8 eM8
      refine lv_lload_n hx hb dX10_readText_49 rfl (lv_at hl 0 rfl) ?_
      refine lv_l2i hx hb dX10_readText_50 rfl ?_
      exact gm_iret hx hb hr hlocks hW hS hf dX10_readText_51
    · replace hf := hf.2 (fun z => c7 (lg_le.mpr z))
      exact j27  _ _ _ (lv_sub hl [1] rfl) hW hS hf

abbrev rm_X10_readZero : Room := { frames := 2, cells := 0, slots := 0, locals := 80 }
def f_X10_readZero_35 (Y : Ly) (Kn : Mm → Prop) (M2 : Mm) : Prop :=
  Kn M2
def f_X10_readZero_30 (Y : Ly) (v0 : Nat) (M : Mm) (Kn : Mm → Prop) : Prop :=
  bz 0 ∧ (∀ M4 : Mm, M4 = sI M v0 (m1 (mI M v0) 7 0) → (f_X10_readZero_35 Y Kn M4))
def f_X10_readZero (Y : Ly) (v0 : Nat) (v1 : Nat) (v2 : Int32) (M : Mm) (Kn : Mm → Prop) : Prop :=
  yK Y v0 = 10 ∧ ((v2 ≤ (mI M v0 6) → (f_X10_readZero_30 Y v0 M Kn)) ∧ (¬ (v2 ≤ (mI M v0 6)) → (yK Y v1 = 100 ∧ (vp_in (mI M v0 6) (yN Y v1) ∧ ((¬ (mI M v1 (mI M v0 6).toNatClampNeg) = 0 → (f_X10_readZero_30 Y v0 M Kn)) ∧ ((mI M v1 (mI M v0 6).toNatClampNeg) = 0 → (∀ M9 : Mm, M9 = sI M v0 (m1 (mI M v0) 6 ((mI M v0 6) + 1)) → (f_X10_readZero_35 Y Kn M9))))))))
set_option maxHeartbeats 4000000 in
set_option maxRecDepth 100000 in
theorem m_X10_readZero (l : Launch) (D : va_G) (cy : Cy) (tq sz : Nat) (Y : Ly) (v0 : Nat) (v1 : Nat) (v2 : Int32) (M : Mm) (Kn : Mm → Prop) : Met l yX10_readZero (Cond.code yX10_readZero cX10_readZero 3 none :: TT) rm_X10_readZero (PcG D cy tq [.ref v0, .ref v1, .int v2] sz Y M (f_X10_readZero Y v0 v1 v2 M Kn)) (va_Qv Kn (BG D cy (Am Y sz) Y) (Am Y sz)) 0 0 (Am Y sz) := by
  refine Met.ofW (cc := cX10_readZero) (maxL := 3) (ret := none) (by decide) rfl ?_
  intro p e s m args below meth c s₁ B hml hv
  obtain ⟨hargs, hsz, hW, hK, hC, hf⟩ := hv
  subst hsz
  have hx := B.exec
  have hb := B.bytes
  have hr := B.returns
  have hts : ∀ w ∈ TT, w.before args s = true := fun w h => atoms_spec (ws := Cond.code yX10_readZero cX10_readZero 3 none :: TT) B.pre w (List.mem_cons_of_mem _ h)
  have hown : s.vm.findClass RX10 = some m.cls := findClass_of_methodNamed B.named
  have hlocks := B.notSynchronized
  replace hW := Wd_self (sz := s.heap.size) hW
  generalize hAe : Am Y s.heap.size = A at hW hC ⊢
  have hA : ∀ q : Nat, s.heap.size ≤ q → A q := fun q h => by rw [← hAe]; exact Or.inr h
  clear hAe
  have hS : va_S A s.heap s.heap [] := va_S.rf
  obtain ⟨ls, hE, hl⟩ := gm_entry m [.ref v0, .ref v1, .int v2] (n := 3) hargs (Nat.le_of_ble_eq_true rfl)
  rw [hE]
  have hl : lv_has ls 3 [(0, .ref v0), (1, .ref v1), (2, .int v2)] := hl
  show W p l e rm_X10_readZero s m args below meth c s.heap [] 0 0 (MQ below (va_Qv Kn (BG D cy A Y) A) args s 0 0 A) (F0 m 0 ls [])
  unfold f_X10_readZero at hf
  refine lv_aload_n hx hb dX10_readZero_0 rfl (lv_at hl 0 rfl) ?_
  obtain ⟨k1, hf⟩ := hf
  refine gm_getI (C := RX10) (T := TX10) (N := 8) (j := 6) hx hb hts inT_10 hown hK hW k1 (by decide) rfl (by decide) rfl (hts _ kw_86) rfl dX10_readZero_1 ?_
  refine lv_iload_n hx hb dX10_readZero_4 rfl (lv_at hl 2 rfl) ?_
  have j35 : ∀ (M2 : Mm) (H : Heap) (locs : List Loc) (ls : Array Slot), lv_has ls 3 [] → Wd D cy A Y M2 H → va_S A s.heap H locs → f_X10_readZero_35 Y Kn M2 → W p l e rm_X10_readZero s m args below meth c H locs 0 0 (MQ below (va_Qv Kn (BG D cy A Y) A) args s 0 0 A) (F0 m 35 ls []) := by
    intro M2 H locs ls hl hW hS hf
    unfold f_X10_readZero_35 at hf
    exact gm_vret hx hb hr hlocks hW hS hf dX10_readZero_35
  have j30 : ∀ (H : Heap) (locs : List Loc) (ls : Array Slot), lv_has ls 3 [(0, .ref v0)] → Wd D cy A Y M H → va_S A s.heap H locs → f_X10_readZero_30 Y v0 M Kn  → W p l e rm_X10_readZero s m args below meth c H locs 0 0 (MQ below (va_Qv Kn (BG D cy A Y) A) args s 0 0 A) (F0 m 30 ls []) := by
    intro  H locs ls hl hW hS hf
    unfold f_X10_readZero_30 at hf
    refine lv_aload_n hx hb dX10_readZero_30 rfl (lv_at hl 0 rfl) ?_
    refine lv_iconst (v := 0) hx hb dX10_readZero_31 (by decide +kernel) ?_
    obtain ⟨z3, hf⟩ := hf
    refine gm_putI (C := RX10) (T := TX10) (N := 8) (j := 7) hx hb hts inT_10 tyX10 tyX10_ok nmX10 hown hK hW hS k1 (by decide) rfl (by decide) rfl (hts _ kw_91) rfl rfl (bz_n z3) (bz_f z3) dX10_readZero_32 (fun H locs M4 eM4 hW hS => ?_)
    replace hf := hf M4 eM4
    exact j35 _ _ _ _ (lv_sub hl [] rfl) hW hS hf
  refine lv_icmp_ge (tgt := 30) hx hb dX10_readZero_5 (by decide) (fun c5 => ?_) (fun c5 => ?_)
  · replace hf := hf.1 c5
    exact j30  _ _ _ (lv_sub hl [0] rfl) hW hS hf
  · replace hf := hf.2 c5
    refine lv_aload_n hx hb dX10_readZero_8 rfl (lv_at hl 1 rfl) ?_
    refine lv_aload_n hx hb dX10_readZero_9 rfl (lv_at hl 0 rfl) ?_
    refine gm_getI (C := RX10) (T := TX10) (N := 8) (j := 6) hx hb hts inT_10 hown hK hW k1 (by decide) rfl (by decide) rfl (hts _ kw_86) rfl dX10_readZero_10 ?_
    obtain ⟨k6, hf⟩ := hf
    obtain ⟨h7, hf⟩ := hf
    refine gm_bald hx hb hK hW k6 h7 dX10_readZero_13 ?_
    refine lv_if_ne (tgt := 30) hx hb dX10_readZero_14 (by decide) (fun c8 => ?_) (fun c8 => ?_)
    · replace hf := hf.1 c8
      exact j30  _ _ _ (lv_sub hl [0] rfl) hW hS hf
    · replace hf := hf.2 c8
      refine lv_aload_n hx hb dX10_readZero_17 rfl (lv_at hl 0 rfl) ?_
      refine lv_dup hx hb dX10_readZero_18 rfl ?_
      refine gm_getI (C := RX10) (T := TX10) (N := 8) (j := 6) hx hb hts inT_10 hown hK hW k1 (by decide) rfl (by decide) rfl (hts _ kw_86) rfl dX10_readZero_19 ?_
      refine lv_iconst (v := 1) hx hb dX10_readZero_22 (by decide +kernel) ?_
      refine lv_iadd hx hb dX10_readZero_23 ?_
      refine gm_putI (C := RX10) (T := TX10) (N := 8) (j := 6) hx hb hts inT_10 tyX10 tyX10_ok nmX10 hown hK hW hS k1 (by decide) rfl (by decide) rfl (hts _ kw_86) rfl rfl rfl rfl dX10_readZero_24 (fun H locs M9 eM9 hW hS => ?_)
      replace hf := hf M9 eM9
      refine lv_goto (tgt := 35) hx hb dX10_readZero_27 (by decide) ?_
      exact j35 _ _ _ _ (lv_sub hl [] rfl) hW hS hf

abbrev rm_X10_read : Room := { frames := 4, cells := 0, slots := 0, locals := 132 }
def f_X10_read_45 (Y : Ly) (Kn : Int32 → Mm → Prop) (M5 : Mm) : Prop :=
  bz 0 ∧ Kn 0 M5
def f_X10_read_170 (Y : Ly) (Kn : Int32 → Mm → Prop) (M26 : Mm) (y27 : Int32) : Prop :=
  bz y27 ∧ Kn y27 M26
def f_X10_read_169 (Y : Ly) (Kn : Int32 → Mm → Prop) (M26 : Mm) : Prop :=
  f_X10_read_170 Y Kn M26 0
def f_X10_read (Y : Ly) (v0 : Nat) (v1 : Nat) (v2 : Int32) (v3 : Int32) (M : Mm) (Kn : Int32 → Mm → Prop) : Prop :=
  yK Y v0 = 10 ∧ (bz 1 ∧ (∀ M3 : Mm, M3 = sI M v0 (m1 (mI M v0) 7 1) → (∀ M4 : Mm, M4 = sI M3 v0 (m1 (mI M3 v0) 6 v2) → (f_X10_readVarint Y v0 v1 v3 M4 (fun r6 M5 => (((mI M5 v0 7) = 0 → (f_X10_read_45 Y Kn M5)) ∧ (¬ ((mI M5 v0 7) = 0) → ((r6 < 0 → (f_X10_read_45 Y Kn M5)) ∧ (¬ (r6 < 0) → ((r6 ≤ ((v3 - (mI M5 v0 6)).toInt64) → (∀ x10 : Int32, x10 = (mI M5 v0 6) + r6.toInt32 → (f_X10_readZero Y v0 v1 x10 M5 (fun M11 => (f_X10_readVarint Y v0 v1 x10 M11 (fun r13 M12 => (∀ M14 : Mm, M14 = sJ M12 v0 (m1 (mJ M12 v0) 0 r13) → (f_X10_readVarint Y v0 v1 x10 M14 (fun r16 M15 => (∀ M17 : Mm, M17 = sJ M15 v0 (m1 (mJ M15 v0) 1 r16) → (f_X10_readText Y v0 v1 x10 M17 (fun r19 M18 => (∀ M20 : Mm, M20 = sI M18 v0 (m1 (mI M18 v0) 3 r19) → (∀ M21 : Mm, M21 = sI M20 v0 (m1 (mI M20 v0) 2 ((mI M20 v0 6) - (if (mI M20 v0 3) < 0 then 0 else (mI M20 v0 3)))) → (f_X10_readText Y v0 v1 x10 M21 (fun r23 M22 => (∀ M24 : Mm, M24 = sI M22 v0 (m1 (mI M22 v0) 5 r23) → (∀ M25 : Mm, M25 = sI M24 v0 (m1 (mI M24 v0) 4 ((mI M24 v0 6) - (if (mI M24 v0 5) < 0 then 0 else (mI M24 v0 5)))) → (f_X10_readZero Y v0 v1 x10 M25 (fun M26 => (((mI M26 v0 7) = 0 → (f_X10_read_169 Y Kn M26)) ∧ (¬ ((mI M26 v0 7) = 0) → ((¬ (mI M26 v0 6) = x10 → (f_X10_read_169 Y Kn M26)) ∧ ((mI M26 v0 6) = x10 → (f_X10_read_170 Y Kn M26 1))))))))))))))))))))))))) ∧ (¬ (r6 ≤ ((v3 - (mI M5 v0 6)).toInt64)) → (f_X10_read_45 Y Kn M5))))))))))))
set_option maxHeartbeats 4000000 in
set_option maxRecDepth 100000 in
theorem m_X10_read (l : Launch) (D : va_G) (cy : Cy) (tq sz : Nat) (Y : Ly) (v0 : Nat) (v1 : Nat) (v2 : Int32) (v3 : Int32) (M : Mm) (Kn : Int32 → Mm → Prop) : Met l yX10_read (Cond.code yX10_read cX10_read 7 (some .boolean) :: TT) rm_X10_read (PcG D cy tq [.ref v0, .ref v1, .int v2, .int v3] sz Y M (f_X10_read Y v0 v1 v2 v3 M Kn)) (va_Qi Kn (BG D cy (Am Y sz) Y) (Am Y sz)) 0 0 (Am Y sz) := by
  refine Met.ofW (cc := cX10_read) (maxL := 7) (ret := (some .boolean)) (by decide) rfl ?_
  intro p e s m args below meth c s₁ B hml hv
  obtain ⟨hargs, hsz, hW, hK, hC, hf⟩ := hv
  subst hsz
  have hx := B.exec
  have hb := B.bytes
  have hr := B.returns
  have hts : ∀ w ∈ TT, w.before args s = true := fun w h => atoms_spec (ws := Cond.code yX10_read cX10_read 7 (some .boolean) :: TT) B.pre w (List.mem_cons_of_mem _ h)
  have hown : s.vm.findClass RX10 = some m.cls := findClass_of_methodNamed B.named
  have hlocks := B.notSynchronized
  replace hW := Wd_self (sz := s.heap.size) hW
  generalize hAe : Am Y s.heap.size = A at hW hC ⊢
  have hA : ∀ q : Nat, s.heap.size ≤ q → A q := fun q h => by rw [← hAe]; exact Or.inr h
  clear hAe
  have hS : va_S A s.heap s.heap [] := va_S.rf
  obtain ⟨ls, hE, hl⟩ := gm_entry m [.ref v0, .ref v1, .int v2, .int v3] (n := 7) hargs (Nat.le_of_ble_eq_true rfl)
  rw [hE]
  have hl : lv_has ls 7 [(0, .ref v0), (1, .ref v1), (2, .int v2), (3, .int v3)] := hl
  show W p l e rm_X10_read s m args below meth c s.heap [] 0 0 (MQ below (va_Qi Kn (BG D cy A Y) A) args s 0 0 A) (F0 m 0 ls [])
  unfold f_X10_read at hf
  refine lv_aload_n hx hb dX10_read_0 rfl (lv_at hl 0 rfl) ?_
  refine lv_iconst (v := 1) hx hb dX10_read_1 (by decide +kernel) ?_
  obtain ⟨k1, hf⟩ := hf
  obtain ⟨z2, hf⟩ := hf
  refine gm_putI (C := RX10) (T := TX10) (N := 8) (j := 7) hx hb hts inT_10 tyX10 tyX10_ok nmX10 hown hK hW hS k1 (by decide) rfl (by decide) rfl (hts _ kw_91) rfl rfl (bz_n z2) (bz_f z2) dX10_read_2 (fun H locs M3 eM3 hW hS => ?_)
  replace hf := hf M3 eM3
  refine lv_aload_n hx hb dX10_read_5 rfl (lv_at hl 0 rfl) ?_
  refine lv_iload_n hx hb dX10_read_6 rfl (lv_at hl 2 rfl) ?_
  refine gm_putI (C := RX10) (T := TX10) (N := 8) (j := 6) hx hb hts inT_10 tyX10 tyX10_ok nmX10 hown hK hW hS k1 (by decide) rfl (by decide) rfl (hts _ kw_86) rfl rfl rfl rfl dX10_read_7 (fun H locs M4 eM4 hW hS => ?_)
  replace hf := hf M4 eM4
  refine lv_aload_n hx hb dX10_read_10 rfl (lv_at hl 0 rfl) ?_
  refine lv_aload_n hx hb dX10_read_11 rfl (lv_at hl 1 rfl) ?_
  refine lv_iload_n hx hb dX10_read_12 rfl (lv_at hl 3 rfl) ?_
  refine gm_cl (va_runV (As := [.ref v1, .int v3]) (rest := []) ⟨hx, hb, hml, hown, hts⟩ (m_X10_readVarint l D cy tq _ Y _ _ _ _ _) (cwV 2 hts (good_V kw_822 kw_823 kw_1791 kw_4 kw_824) rfl rfl rfl (by decide +kernel) ⟨Nat.le_of_ble_eq_true rfl, Nat.le_of_ble_eq_true rfl⟩) (gm_preV hK hW hC hS hA k1 (by decide) (q := (RX10, TX10, 8)) rfl rfl hf) rfl rfl hl.1 rfl (lv_room (Nat.le_of_ble_eq_true rfl)) dX10_read_13 ⟨Nat.le_of_ble_eq_true rfl, Nat.le_of_ble_eq_true rfl⟩) hW hS hA (fun r6 M5 H locs hW hS hf => ?_)
  refine lv_lstore (lv' := [(4, .long r6), (0, .ref v0), (1, .ref v1), (2, .int v2), (3, .int v3)]) hx hb dX10_read_16 hl (by decide) rfl (fun ls hl => ?_)
  refine lv_aload_n hx hb dX10_read_18 rfl (lv_at hl 1 rfl) ?_
  refine gm_getI (C := RX10) (T := TX10) (N := 8) (j := 7) hx hb hts inT_10 hown hK hW k1 (by decide) rfl (by decide) rfl (hts _ kw_91) rfl dX10_read_19 ?_
  have j45 : ∀ (H : Heap) (locs : List Loc) (ls : Array Slot), lv_has ls 7 [] → Wd D cy A Y M5 H → va_S A s.heap H locs → f_X10_read_45 Y Kn M5  → W p l e rm_X10_read s m args below meth c H locs 0 0 (MQ below (va_Qi Kn (BG D cy A Y) A) args s 0 0 A) (F0 m 45 ls []) := by
    intro  H locs ls hl hW hS hf
    unfold f_X10_read_45 at hf
    refine lv_iconst (v := 0) hx hb dX10_read_45 (by decide +kernel) ?_
    exact gm_zret hx hb hr hlocks hW hS hf.1 hf.2 dX10_read_46
  refine lv_if_eq (tgt := 45) hx hb dX10_read_22 (by decide) (fun c7 => ?_) (fun c7 => ?_)
  · replace hf := hf.1 c7
    exact j45  _ _ _ (lv_sub hl [] rfl) hW hS hf
  · replace hf := hf.2 c7
    refine lv_lload hx hb dX10_read_25 (lv_at hl 0 rfl) ?_
    refine lv_lconst (v := 0) hx hb dX10_read_27 (by decide) ?_
    refine W.lcmp hx hb dX10_read_28 ?_
    refine lv_if_lt (tgt := 45) hx hb dX10_read_29 (by decide) (fun c8 => ?_) (fun c8 => ?_)
    · replace hf := hf.1 (lg_lt.mp c8)
      exact j45  _ _ _ (lv_sub hl [] rfl) hW hS hf
    · replace hf := hf.2 (fun z => c8 (lg_lt.mpr z))
      refine lv_lload hx hb dX10_read_32 (lv_at hl 0 rfl) ?_
      refine lv_iload_n hx hb dX10_read_34 rfl (lv_at hl 4 rfl) ?_
      refine lv_aload_n hx hb dX10_read_35 rfl (lv_at hl 1 rfl) ?_
      refine gm_getI (C := RX10) (T := TX10) (N := 8) (j := 6) hx hb hts inT_10 hown hK hW k1 (by decide) rfl (by decide) rfl (hts _ kw_86) rfl dX10_read_36 ?_
      refine lv_isub hx hb dX10_read_39 ?_
      refine lv_i2l hx hb dX10_read_40 rfl ?_
      refine W.lcmp hx hb dX10_read_41 ?_
      refine lv_if_le (tgt := 47) hx hb dX10_read_42 (by decide) (fun c9 => ?_) (fun c9 => ?_)
      · replace hf := hf.1 (lg_le.mp c9)
        refine lv_aload_n hx hb dX10_read_47 rfl (lv_at hl 1 rfl) ?_
        refine gm_getI (C := RX10) (T := TX10) (N := 8) (j := 6) hx hb hts inT_10 hown hK hW k1 (by decide) rfl (by decide) rfl (hts _ kw_86) rfl dX10_read_48 ?_
        refine lv_lload hx hb dX10_read_51 (lv_at hl 0 rfl) ?_
        refine lv_l2i hx hb dX10_read_53 rfl ?_
        refine lv_iadd hx hb dX10_read_54 ?_
        refine lv_topi (fun x10 ex10 => ?_)
        replace hf := hf x10 ex10
        refine lv_istore (lv' := [(6, .int x10), (4, .long r6), (0, .ref v0), (1, .ref v1), (2, .int v2), (3, .int v3)]) hx hb dX10_read_55 hl (by decide) rfl (fun ls hl => ?_)
        refine lv_aload_n hx hb dX10_read_57 rfl (lv_at hl 2 rfl) ?_
        refine lv_aload_n hx hb dX10_read_58 rfl (lv_at hl 3 rfl) ?_
        refine lv_iload hx hb dX10_read_59 (lv_at hl 0 rfl) ?_
        refine gm_cv (va_runV (As := [.ref v1, .int x10]) (rest := []) ⟨hx, hb, hml, hown, hts⟩ (m_X10_readZero l D cy tq _ Y _ _ _ _ _) (cwV 2 hts (good_V kw_825 kw_826 kw_1792 kw_4 kw_827) rfl rfl rfl (by decide +kernel) ⟨Nat.le_of_ble_eq_true rfl, Nat.le_of_ble_eq_true rfl⟩) (gm_preV hK hW hC hS hA k1 (by decide) (q := (RX10, TX10, 8)) rfl rfl hf) rfl rfl hl.1 rfl (lv_room (Nat.le_of_ble_eq_true rfl)) dX10_read_61 ⟨Nat.le_of_ble_eq_true rfl, Nat.le_of_ble_eq_true rfl⟩) hW hS hA (fun M11 H locs hW hS hf => ?_)
        refine lv_aload_n hx hb dX10_read_64 rfl (lv_at hl 2 rfl) ?_
        refine lv_aload_n hx hb dX10_read_65 rfl (lv_at hl 2 rfl) ?_
        refine lv_aload_n hx hb dX10_read_66 rfl (lv_at hl 3 rfl) ?_
        refine lv_iload hx hb dX10_read_67 (lv_at hl 0 rfl) ?_
        refine gm_cl (va_runV (As := [.ref v1, .int x10]) (rest := [.ref v0]) ⟨hx, hb, hml, hown, hts⟩ (m_X10_readVarint l D cy tq _ Y _ _ _ _ _) (cwV 2 hts (good_V kw_822 kw_823 kw_1791 kw_4 kw_824) rfl rfl rfl (by decide +kernel) ⟨Nat.le_of_ble_eq_true rfl, Nat.le_of_ble_eq_true rfl⟩) (gm_preV hK hW hC hS hA k1 (by decide) (q := (RX10, TX10, 8)) rfl rfl hf) rfl rfl hl.1 rfl (lv_room (Nat.le_of_ble_eq_true rfl)) dX10_read_69 ⟨Nat.le_of_ble_eq_true rfl, Nat.le_of_ble_eq_true rfl⟩) hW hS hA (fun r13 M12 H locs hW hS hf => ?_)
        refine gm_putJ (C := RX10) (T := TX10) (N := 8) (j := 0) hx hb hts inT_10 tyX10 tyX10_ok nmX10 hown hK hW hS k1 (by decide) rfl (by decide) rfl (hts _ kw_66) rfl rfl rfl rfl dX10_read_72 (fun H locs M14 eM14 hW hS => ?_)
        replace hf := hf M14 eM14
        refine lv_aload_n hx hb dX10_read_75 rfl (lv_at hl 2 rfl) ?_
        refine lv_aload_n hx hb dX10_read_76 rfl (lv_at hl 2 rfl) ?_
        refine lv_aload_n hx hb dX10_read_77 rfl (lv_at hl 3 rfl) ?_
        refine lv_iload hx hb dX10_read_78 (lv_at hl 0 rfl) ?_
        refine gm_cl (va_runV (As := [.ref v1, .int x10]) (rest := [.ref v0]) ⟨hx, hb, hml, hown, hts⟩ (m_X10_readVarint l D cy tq _ Y _ _ _ _ _) (cwV 2 hts (good_V kw_822 kw_823 kw_1791 kw_4 kw_824) rfl rfl rfl (by decide +kernel) ⟨Nat.le_of_ble_eq_true rfl, Nat.le_of_ble_eq_true rfl⟩) (gm_preV hK hW hC hS hA k1 (by decide) (q := (RX10, TX10, 8)) rfl rfl hf) rfl rfl hl.1 rfl (lv_room (Nat.le_of_ble_eq_true rfl)) dX10_read_80 ⟨Nat.le_of_ble_eq_true rfl, Nat.le_of_ble_eq_true rfl⟩) hW hS hA (fun r16 M15 H locs hW hS hf => ?_)
        refine gm_putJ (C := RX10) (T := TX10) (N := 8) (j := 1) hx hb hts inT_10 tyX10 tyX10_ok nmX10 hown hK hW hS k1 (by decide) rfl (by decide) rfl (hts _ kw_71) rfl rfl rfl rfl dX10_read_83 (fun H locs M17 eM17 hW hS => ?_)
        replace hf := hf M17 eM17
        refine lv_aload_n hx hb dX10_read_86 rfl (lv_at hl 2 rfl) ?_
        refine lv_aload_n hx hb dX10_read_87 rfl (lv_at hl 2 rfl) ?_
        refine lv_aload_n hx hb dX10_read_88 rfl (lv_at hl 3 rfl) ?_
        refine lv_iload hx hb dX10_read_89 (lv_at hl 0 rfl) ?_
        refine gm_ci (va_runV (As := [.ref v1, .int x10]) (rest := [.ref v0]) ⟨hx, hb, hml, hown, hts⟩ (m_X10_readText l D cy tq _ Y _ _ _ _ _) (cwV 2 hts (good_V kw_828 kw_829 kw_1793 kw_4 kw_830) rfl rfl rfl (by decide +kernel) ⟨Nat.le_of_ble_eq_true rfl, Nat.le_of_ble_eq_true rfl⟩) (gm_preV hK hW hC hS hA k1 (by decide) (q := (RX10, TX10, 8)) rfl rfl hf) rfl rfl hl.1 rfl (lv_room (Nat.le_of_ble_eq_true rfl)) dX10_read_91 ⟨Nat.le_of_ble_eq_true rfl, Nat.le_of_ble_eq_true rfl⟩) hW hS hA (fun r19 M18 H locs hW hS hf => ?_)
        refine gm_putI (C := RX10) (T := TX10) (N := 8) (j := 3) hx hb hts inT_10 tyX10 tyX10_ok nmX10 hown hK hW hS k1 (by decide) rfl (by decide) rfl (hts _ kw_78) rfl rfl rfl rfl dX10_read_94 (fun H locs M20 eM20 hW hS => ?_)
        replace hf := hf M20 eM20
        refine lv_aload_n hx hb dX10_read_97 rfl (lv_at hl 2 rfl) ?_
        refine lv_aload_n hx hb dX10_read_98 rfl (lv_at hl 2 rfl) ?_
        refine gm_getI (C := RX10) (T := TX10) (N := 8) (j := 6) hx hb hts inT_10 hown hK hW k1 (by decide) rfl (by decide) rfl (hts _ kw_86) rfl dX10_read_99 ?_
        refine lv_aload_n hx hb dX10_read_102 rfl (lv_at hl 2 rfl) ?_
        refine gm_getI (C := RX10) (T := TX10) (N := 8) (j := 3) hx hb hts inT_10 hown hK hW k1 (by decide) rfl (by decide) rfl (hts _ kw_78) rfl dX10_read_103 ?_
        refine lv_iconst (v := 0) hx hb dX10_read_106 (by decide +kernel) ?_
        refine va_mmax hx hb (by rw [hml]; exact hl.1.symm) hown (hts _ kw_833) (hts _ kw_134) (hts _ kw_6) (hts _ kmath_maxI) (Nat.le_of_ble_eq_true rfl) (Nat.le_of_ble_eq_true rfl) (Nat.zero_le _) (Nat.zero_le _) dX10_read_107 ?_
        refine lv_isub hx hb dX10_read_110 ?_
        refine gm_putI (C := RX10) (T := TX10) (N := 8) (j := 2) hx hb hts inT_10 tyX10 tyX10_ok nmX10 hown hK hW hS k1 (by decide) rfl (by decide) rfl (hts _ kw_75) rfl rfl rfl rfl dX10_read_111 (fun H locs M21 eM21 hW hS => ?_)
        replace hf := hf M21 eM21
        refine lv_aload_n hx hb dX10_read_114 rfl (lv_at hl 2 rfl) ?_
        refine lv_aload_n hx hb dX10_read_115 rfl (lv_at hl 2 rfl) ?_
        refine lv_aload_n hx hb dX10_read_116 rfl (lv_at hl 3 rfl) ?_
        refine lv_iload hx hb dX10_read_117 (lv_at hl 0 rfl) ?_
        refine gm_ci (va_runV (As := [.ref v1, .int x10]) (rest := [.ref v0]) ⟨hx, hb, hml, hown, hts⟩ (m_X10_readText l D cy tq _ Y _ _ _ _ _) (cwV 2 hts (good_V kw_828 kw_829 kw_1793 kw_4 kw_830) rfl rfl rfl (by decide +kernel) ⟨Nat.le_of_ble_eq_true rfl, Nat.le_of_ble_eq_true rfl⟩) (gm_preV hK hW hC hS hA k1 (by decide) (q := (RX10, TX10, 8)) rfl rfl hf) rfl rfl hl.1 rfl (lv_room (Nat.le_of_ble_eq_true rfl)) dX10_read_119 ⟨Nat.le_of_ble_eq_true rfl, Nat.le_of_ble_eq_true rfl⟩) hW hS hA (fun r23 M22 H locs hW hS hf => ?_)
        refine gm_putI (C := RX10) (T := TX10) (N := 8) (j := 5) hx hb hts inT_10 tyX10 tyX10_ok nmX10 hown hK hW hS k1 (by decide) rfl (by decide) rfl (hts _ kw_83) rfl rfl rfl rfl dX10_read_122 (fun H locs M24 eM24 hW hS => ?_)
        replace hf := hf M24 eM24
        refine lv_aload_n hx hb dX10_read_125 rfl (lv_at hl 2 rfl) ?_
        refine lv_aload_n hx hb dX10_read_126 rfl (lv_at hl 2 rfl) ?_
        refine gm_getI (C := RX10) (T := TX10) (N := 8) (j := 6) hx hb hts inT_10 hown hK hW k1 (by decide) rfl (by decide) rfl (hts _ kw_86) rfl dX10_read_127 ?_
        refine lv_aload_n hx hb dX10_read_130 rfl (lv_at hl 2 rfl) ?_
        refine gm_getI (C := RX10) (T := TX10) (N := 8) (j := 5) hx hb hts inT_10 hown hK hW k1 (by decide) rfl (by decide) rfl (hts _ kw_83) rfl dX10_read_131 ?_
        refine lv_iconst (v := 0) hx hb dX10_read_134 (by decide +kernel) ?_
        refine va_mmax hx hb (by rw [hml]; exact hl.1.symm) hown (hts _ kw_833) (hts _ kw_134) (hts _ kw_6) (hts _ kmath_maxI) (Nat.le_of_ble_eq_true rfl) (Nat.le_of_ble_eq_true rfl) (Nat.zero_le _) (Nat.zero_le _) dX10_read_135 ?_
        refine lv_isub hx hb dX10_read_138 ?_
        refine gm_putI (C := RX10) (T := TX10) (N := 8) (j := 4) hx hb hts inT_10 tyX10 tyX10_ok nmX10 hown hK hW hS k1 (by decide) rfl (by decide) rfl (hts _ kw_81) rfl rfl rfl rfl dX10_read_139 (fun H locs M25 eM25 hW hS => ?_)
        replace hf := hf M25 eM25
        refine lv_aload_n hx hb dX10_read_142 rfl (lv_at hl 2 rfl) ?_
        refine lv_aload_n hx hb dX10_read_143 rfl (lv_at hl 3 rfl) ?_
        refine lv_iload hx hb dX10_read_144 (lv_at hl 0 rfl) ?_
        refine gm_cv (va_runV (As := [.ref v1, .int x10]) (rest := []) ⟨hx, hb, hml, hown, hts⟩ (m_X10_readZero l D cy tq _ Y _ _ _ _ _) (cwV 2 hts (good_V kw_825 kw_826 kw_1792 kw_4 kw_827) rfl rfl rfl (by decide +kernel) ⟨Nat.le_of_ble_eq_true rfl, Nat.le_of_ble_eq_true rfl⟩) (gm_preV hK hW hC hS hA k1 (by decide) (q := (RX10, TX10, 8)) rfl rfl hf) rfl rfl hl.1 rfl (lv_room (Nat.le_of_ble_eq_true rfl)) dX10_read_146 ⟨Nat.le_of_ble_eq_true rfl, Nat.le_of_ble_eq_true rfl⟩) hW hS hA (fun M26 H locs hW hS hf => ?_)
        refine lv_aload_n hx hb dX10_read_149 rfl (lv_at hl 2 rfl) ?_
        refine gm_getI (C := RX10) (T := TX10) (N := 8) (j := 7) hx hb hts inT_10 hown hK hW k1 (by decide) rfl (by decide) rfl (hts _ kw_91) rfl dX10_read_150 ?_
        have j170 : ∀ (y27 : Int32) (H : Heap) (locs : List Loc) (ls : Array Slot), lv_has ls 7 [] → Wd D cy A Y M26 H → va_S A s.heap H locs → f_X10_read_170 Y Kn M26 y27 → W p l e rm_X10_read s m args below meth c H locs 0 0 (MQ below (va_Qi Kn (BG D cy A Y) A) args s 0 0 A) (F0 m 170 ls [.int y27]) := by
          intro y27 H locs ls hl hW hS hf
          unfold f_X10_read_170 at hf
          exact gm_zret hx hb hr hlocks hW hS hf.1 hf.2 dX10_read_170
        have j169 : ∀ (H : Heap) (locs : List Loc) (ls : Array Slot), lv_has ls 7 [] → Wd D cy A Y M26 H → va_S A s.heap H locs → f_X10_read_169 Y Kn M26  → W p l e rm_X10_read s m args below meth c H locs 0 0 (MQ below (va_Qi Kn (BG D cy A Y) A) args s 0 0 A) (F0 m 169 ls []) := by
          intro  H locs ls hl hW hS hf
          unfold f_X10_read_169 at hf
          refine lv_iconst (v := 0) hx hb dX10_read_169 (by decide +kernel) ?_
          exact j170 _ _ _ _ (lv_sub hl [] rfl) hW hS hf
        refine lv_if_eq (tgt := 169) hx hb dX10_read_153 (by decide) (fun c28 => ?_) (fun c28 => ?_)
        · replace hf := hf.1 c28
          exact j169  _ _ _ (lv_sub hl [] rfl) hW hS hf
        · replace hf := hf.2 c28
          refine lv_aload_n hx hb dX10_read_156 rfl (lv_at hl 2 rfl) ?_
          refine gm_getI (C := RX10) (T := TX10) (N := 8) (j := 6) hx hb hts inT_10 hown hK hW k1 (by decide) rfl (by decide) rfl (hts _ kw_86) rfl dX10_read_157 ?_
          refine lv_iload hx hb dX10_read_160 (lv_at hl 0 rfl) ?_
          refine lv_icmp_ne (tgt := 169) hx hb dX10_read_162 (by decide) (fun c29 => ?_) (fun c29 => ?_)
          · replace hf := hf.1 c29
            exact j169  _ _ _ (lv_sub hl [] rfl) hW hS hf
          · replace hf := hf.2 c29
            refine lv_iconst (v := 1) hx hb dX10_read_165 (by decide +kernel) ?_
            refine lv_goto (tgt := 170) hx hb dX10_read_166 (by decide) ?_
            exact j170 _ _ _ _ (lv_sub hl [] rfl) hW hS hf
      · replace hf := hf.2 (fun z => c9 (lg_le.mpr z))
        exact j45  _ _ _ (lv_sub hl [] rfl) hW hS hf

abbrev rm_X3_write : Room := { frames := 2, cells := 0, slots := 0, locals := 80 }
def f_X3_write_122 (Y : Ly) (Kn : Int32 → Mm → Prop) (M2 : Mm) (y4 : Int32) : Prop :=
  bz y4 ∧ Kn y4 M2
def f_X3_write_110 (Y : Ly) (v0 : Nat) (Kn : Int32 → Mm → Prop) (M2 : Mm) : Prop :=
  yK Y v0 = 3 ∧ ((¬ (mI M2 v0 3) = 0 → (f_X3_write_122 Y Kn M2 0)) ∧ ((mI M2 v0 3) = 0 → (f_X3_write_122 Y Kn M2 1)))
def f_X3_write_107 (Y : Ly) (again3 : Int32 → Mm → Prop) (x16 : Int32) (M18 : Mm) : Prop :=
  again3 x16 M18
def f_X3_write_104 (Y : Ly) (v0 : Nat) (again3 : Int32 → Mm → Prop) (x16 : Int32) (M20 : Mm) (y21 : Int32) : Prop :=
  bz y21 ∧ (∀ M23 : Mm, M23 = sI M20 v0 (m1 (mI M20 v0) 3 y21) → (f_X3_write_107 Y again3 x16 M23))
def L_X3_write_3 (Y : Ly) (v0 : Nat) (v1 : Int32) (v2 : Nat) (v3 : Int32) (v4 : Int32) (Kn : Int32 → Mm → Prop) (x1 : Int32) (M2 : Mm) (again3 : Int32 → Mm → Prop) : Prop :=
  (v4 ≤ x1 → (f_X3_write_110 Y v0 Kn M2)) ∧ (¬ (v4 ≤ x1) → (yK Y v0 = 3 ∧ ((¬ (mI M2 v0 3) = 0 → (f_X3_write_110 Y v0 Kn M2)) ∧ ((mI M2 v0 3) = 0 → (∀ x10 : Int32, x10 = (if (1024 - ((v1 + x1) - (v1 + x1) / 1024 * 1024)) < (v4 - x1) then (1024 - ((v1 + x1) - (v1 + x1) / 1024 * 1024)) else (v4 - x1)) → (∃ b11 : Nat, mR M2 v0 0 = some b11 ∧ (yK Y v2 = 100 ∧ (yK Y b11 = 100 ∧ (((¬ (v3 + x1) < 0) ∧ (¬ (v1 + x1) < 0) ∧ (¬ x10 < 0) ∧ (v3 + x1).toNatClampNeg + x10.toNatClampNeg ≤ yN Y v2 ∧ (v1 + x1).toNatClampNeg + x10.toNatClampNeg ≤ yN Y b11) ∧ (∀ M15 : Mm, M15 = sI M2 b11 (va_cpy (mI M2 v2) (mI M2 b11) (v3 + x1).toNatClampNeg (v1 + x1).toNatClampNeg x10.toNatClampNeg) → (∀ x16 : Int32, x16 = x1 + x10 → (∀ M17 : Mm, M17 = sI M15 v0 (m1 (mI M15 v0) 1 ((mI M15 v0 1) + 1)) → (((mI M17 v0 2) ≤ 0 → (f_X3_write_107 Y again3 x16 M17)) ∧ (¬ ((mI M17 v0 2) ≤ 0) → (∀ M20 : Mm, M20 = sI M17 v0 (m1 (mI M17 v0) 2 ((mI M17 v0 2) - 1)) → ((¬ (mI M20 v0 2) = 0 → (f_X3_write_104 Y v0 again3 x16 M20 0)) ∧ ((mI M20 v0 2) = 0 → (f_X3_write_104 Y v0 again3 x16 M20 1))))))))))))))))))
def f_X3_write (Y : Ly) (v0 : Nat) (v1 : Int32) (v2 : Nat) (v3 : Int32) (v4 : Int32) (M : Mm) (Kn : Int32 → Mm → Prop) : Prop :=
  ∃ n, LOOP2 (L_X3_write_3 Y v0 v1 v2 v3 v4 Kn) n 0 M
set_option maxHeartbeats 4000000 in
set_option maxRecDepth 100000 in
theorem m_X3_write (l : Launch) (D : va_G) (cy : Cy) (tq sz : Nat) (Y : Ly) (v0 : Nat) (v1 : Int32) (v2 : Nat) (v3 : Int32) (v4 : Int32) (M : Mm) (Kn : Int32 → Mm → Prop) : Met l yX3_write (Cond.code yX3_write cX3_write 7 (some .boolean) :: TT) rm_X3_write (PcG D cy tq [.ref v0, .int v1, .ref v2, .int v3, .int v4] sz Y M (f_X3_write Y v0 v1 v2 v3 v4 M Kn)) (va_Qi Kn (BG D cy (Am Y sz) Y) (Am Y sz)) 0 0 (Am Y sz) := by
  refine Met.ofW (cc := cX3_write) (maxL := 7) (ret := (some .boolean)) (by decide) rfl ?_
  intro p e s m args below meth c s₁ B hml hv
  obtain ⟨hargs, hsz, hW, hK, hC, hf⟩ := hv
  subst hsz
  have hx := B.exec
  have hb := B.bytes
  have hr := B.returns
  have hts : ∀ w ∈ TT, w.before args s = true := fun w h => atoms_spec (ws := Cond.code yX3_write cX3_write 7 (some .boolean) :: TT) B.pre w (List.mem_cons_of_mem _ h)
  have hown : s.vm.findClass RX3 = some m.cls := findClass_of_methodNamed B.named
  have hlocks := B.notSynchronized
  replace hW := Wd_self (sz := s.heap.size) hW
  generalize hAe : Am Y s.heap.size = A at hW hC ⊢
  have hA : ∀ q : Nat, s.heap.size ≤ q → A q := fun q h => by rw [← hAe]; exact Or.inr h
  clear hAe
  have hS : va_S A s.heap s.heap [] := va_S.rf
  obtain ⟨ls, hE, hl⟩ := gm_entry m [.ref v0, .int v1, .ref v2, .int v3, .int v4] (n := 7) hargs (Nat.le_of_ble_eq_true rfl)
  rw [hE]
  have hl : lv_has ls 7 [(0, .ref v0), (1, .int v1), (2, .ref v2), (3, .int v3), (4, .int v4)] := hl
  show W p l e rm_X3_write s m args below meth c s.heap [] 0 0 (MQ below (va_Qi Kn (BG D cy A Y) A) args s 0 0 A) (F0 m 0 ls [])
  unfold f_X3_write at hf
  refine lv_iconst (v := 0) hx hb dX3_write_0 (by decide +kernel) ?_
  refine lv_istore (lv' := [(5, .int 0), (0, .ref v0), (1, .int v1), (2, .ref v2), (3, .int v3), (4, .int v4)]) hx hb dX3_write_1 hl (by decide) rfl (fun ls hl => ?_)
  obtain ⟨n3, hf⟩ := hf
  have lp3 : ∀ (n3 : Nat) (x1 : Int32) (M2 : Mm) (H : Heap) (locs : List Loc) (ls : Array Slot), lv_has ls 7 [(0, .ref v0), (1, .int v1), (2, .ref v2), (3, .int v3), (4, .int v4), (5, .int x1)] → Wd D cy A Y M2 H → va_S A s.heap H locs → LOOP2 (L_X3_write_3 Y v0 v1 v2 v3 v4 Kn) n3 x1 M2 → W p l e rm_X3_write s m args below meth c H locs 0 0 (MQ below (va_Qi Kn (BG D cy A Y) A) args s 0 0 A) (F0 m 3 ls []) := by
    intro n3
    induction n3 with
    | zero => intro x1 M2 H locs ls hl hW hS hf; exact hf.elim
    | succ n3 ih3 =>
      intro x1 M2 H locs ls hl hW hS hf
      replace hf : L_X3_write_3 Y v0 v1 v2 v3 v4 Kn x1 M2 (LOOP2 (L_X3_write_3 Y v0 v1 v2 v3 v4 Kn) n3) := hf
      unfold L_X3_write_3 at hf
      refine lv_iload hx hb dX3_write_3 (lv_at hl 5 rfl) ?_
      refine lv_iload hx hb dX3_write_5 (lv_at hl 4 rfl) ?_
      have j110 : ∀ (H : Heap) (locs : List Loc) (ls : Array Slot), lv_has ls 7 [(0, .ref v0)] → Wd D cy A Y M2 H → va_S A s.heap H locs → f_X3_write_110 Y v0 Kn M2  → W p l e rm_X3_write s m args below meth c H locs 0 0 (MQ below (va_Qi Kn (BG D cy A Y) A) args s 0 0 A) (F0 m 110 ls []) := by
        intro  H locs ls hl hW hS hf
        unfold f_X3_write_110 at hf
        refine lv_aload_n hx hb dX3_write_110 rfl (lv_at hl 0 rfl) ?_
        obtain ⟨k3, hf⟩ := hf
        refine gm_getI (C := RX3) (T := TX3) (N := 4) (j := 3) hx hb hts inT_3 hown hK hW k3 (by decide) rfl (by decide) rfl (hts _ kw_151) rfl dX3_write_111 ?_
        have j122 : ∀ (y4 : Int32) (H : Heap) (locs : List Loc) (ls : Array Slot), lv_has ls 7 [] → Wd D cy A Y M2 H → va_S A s.heap H locs → f_X3_write_122 Y Kn M2 y4 → W p l e rm_X3_write s m args below meth c H locs 0 0 (MQ below (va_Qi Kn (BG D cy A Y) A) args s 0 0 A) (F0 m 122 ls [.int y4]) := by
          intro y4 H locs ls hl hW hS hf
          unfold f_X3_write_122 at hf
          exact gm_zret hx hb hr hlocks hW hS hf.1 hf.2 dX3_write_122
        refine lv_if_ne (tgt := 121) hx hb dX3_write_114 (by decide) (fun c5 => ?_) (fun c5 => ?_)
        · replace hf := hf.1 c5
          refine lv_iconst (v := 0) hx hb dX3_write_121 (by decide +kernel) ?_
          exact j122 _ _ _ _ (lv_sub hl [] rfl) hW hS hf
        · replace hf := hf.2 c5
          refine lv_iconst (v := 1) hx hb dX3_write_117 (by decide +kernel) ?_
          refine lv_goto (tgt := 122) hx hb dX3_write_118 (by decide) ?_
          exact j122 _ _ _ _ (lv_sub hl [] rfl) hW hS hf
      refine lv_icmp_ge (tgt := 110) hx hb dX3_write_7 (by decide) (fun c6 => ?_) (fun c6 => ?_)
      · replace hf := hf.1 c6
        exact j110  _ _ _ (lv_sub hl [0] rfl) hW hS hf
      · replace hf := hf.2 c6
        refine lv_aload_n hx hb dX3_write_10 rfl (lv_at hl 0 rfl) ?_
        obtain ⟨k7, hf⟩ := hf
        refine gm_getI (C := RX3) (T := TX3) (N := 4) (j := 3) hx hb hts inT_3 hown hK hW k7 (by decide) rfl (by decide) rfl (hts _ kw_151) rfl dX3_write_11 ?_
        refine lv_if_ne (tgt := 110) hx hb dX3_write_14 (by decide) (fun c8 => ?_) (fun c8 => ?_)
        · replace hf := hf.1 c8
          exact j110  _ _ _ (lv_sub hl [0] rfl) hW hS hf
        · replace hf := hf.2 c8
          refine lv_iload hx hb dX3_write_17 (lv_at hl 4 rfl) ?_
          refine lv_iload hx hb dX3_write_19 (lv_at hl 5 rfl) ?_
          refine lv_isub hx hb dX3_write_21 ?_
          refine lv_sipush (v := 1024) hx hb dX3_write_22 (by decide +kernel) ?_
          refine lv_iload_n hx hb dX3_write_25 rfl (lv_at hl 1 rfl) ?_
          refine lv_iload hx hb dX3_write_26 (lv_at hl 5 rfl) ?_
          refine lv_iadd hx hb dX3_write_28 ?_
          refine lv_sipush (v := 1024) hx hb dX3_write_29 (by decide +kernel) ?_
          refine lv_irem hx hb dX3_write_32 (by decide) ?_
          refine lv_isub hx hb dX3_write_33 ?_
          refine va_mmin hx hb (by rw [hml]; exact hl.1.symm) hown (hts _ kw_849) (hts _ kw_131) (hts _ kw_6) (hts _ kmath_minI) (Nat.le_of_ble_eq_true rfl) (Nat.le_of_ble_eq_true rfl) (Nat.zero_le _) (Nat.zero_le _) dX3_write_34 ?_
          refine lv_topi (fun x10 ex10 => ?_)
          replace hf := hf x10 ex10
          refine lv_istore (lv' := [(6, .int x10), (0, .ref v0), (1, .int v1), (2, .ref v2), (3, .int v3), (4, .int v4), (5, .int x1)]) hx hb dX3_write_37 hl (by decide) rfl (fun ls hl => ?_)
          refine lv_aload_n hx hb dX3_write_39 rfl (lv_at hl 3 rfl) ?_
          refine lv_iload_n hx hb dX3_write_40 rfl (lv_at hl 4 rfl) ?_
          refine lv_iload hx hb dX3_write_41 (lv_at hl 6 rfl) ?_
          refine lv_iadd hx hb dX3_write_43 ?_
          refine lv_aload_n hx hb dX3_write_44 rfl (lv_at hl 1 rfl) ?_
          obtain ⟨b11, hb11, hf⟩ := hf
          refine gm_getR (C := RX3) (T := TX3) (N := 4) (j := 0) hx hb hts inT_3 hown hK hW k7 (by decide) rfl (by decide) rfl (hts _ kw_142) rfl dX3_write_45 hb11 ?_
          refine lv_iload_n hx hb dX3_write_48 rfl (lv_at hl 2 rfl) ?_
          refine lv_iload hx hb dX3_write_49 (lv_at hl 6 rfl) ?_
          refine lv_iadd hx hb dX3_write_51 ?_
          refine lv_iload hx hb dX3_write_52 (lv_at hl 0 rfl) ?_
          obtain ⟨k12, hf⟩ := hf
          obtain ⟨k13, hf⟩ := hf
          obtain ⟨h14, hf⟩ := hf
          refine gm_copyb hx hb (by rw [hml]; exact hl.1.symm) hown (hts _ kw_850) (hts _ kw_534) (hts _ kw_533) (hts _ kw_19) hK hW hS k12 k13 h14 (Nat.le_of_ble_eq_true rfl) (Nat.le_of_ble_eq_true rfl) dX3_write_54 (fun H locs M15 eM15 hW hS => ?_)
          replace hf := hf M15 eM15
          refine lv_iload hx hb dX3_write_57 (lv_at hl 6 rfl) ?_
          refine lv_iload hx hb dX3_write_59 (lv_at hl 0 rfl) ?_
          refine lv_iadd hx hb dX3_write_61 ?_
          refine lv_topi (fun x16 ex16 => ?_)
          replace hf := hf x16 ex16
          refine lv_istore (lv' := [(5, .int x16), (6, .int x10), (0, .ref v0), (1, .int v1), (2, .ref v2), (3, .int v3), (4, .int v4)]) hx hb dX3_write_62 hl (by decide) rfl (fun ls hl => ?_)
          refine lv_aload_n hx hb dX3_write_64 rfl (lv_at hl 2 rfl) ?_
          refine lv_dup hx hb dX3_write_65 rfl ?_
          refine gm_getI (C := RX3) (T := TX3) (N := 4) (j := 1) hx hb hts inT_3 hown hK hW k7 (by decide) rfl (by decide) rfl (hts _ kw_147) rfl dX3_write_66 ?_
          refine lv_iconst (v := 1) hx hb dX3_write_69 (by decide +kernel) ?_
          refine lv_iadd hx hb dX3_write_70 ?_
          refine gm_putI (C := RX3) (T := TX3) (N := 4) (j := 1) hx hb hts inT_3 tyX3 tyX3_ok nmX3 hown hK hW hS k7 (by decide) rfl (by decide) rfl (hts _ kw_147) rfl rfl rfl rfl dX3_write_71 (fun H locs M17 eM17 hW hS => ?_)
          replace hf := hf M17 eM17
          refine lv_aload_n hx hb dX3_write_74 rfl (lv_at hl 2 rfl) ?_
          refine gm_getI (C := RX3) (T := TX3) (N := 4) (j := 2) hx hb hts inT_3 hown hK hW k7 (by decide) rfl (by decide) rfl (hts _ kw_149) rfl dX3_write_75 ?_
          have j107 : ∀ (M18 : Mm) (H : Heap) (locs : List Loc) (ls : Array Slot), lv_has ls 7 [(0, .ref v0), (1, .int v1), (2, .ref v2), (3, .int v3), (4, .int v4), (5, .int x16)] → Wd D cy A Y M18 H → va_S A s.heap H locs → f_X3_write_107 Y (LOOP2 (L_X3_write_3 Y v0 v1 v2 v3 v4 Kn) n3) x16 M18 → W p l e rm_X3_write s m args below meth c H locs 0 0 (MQ below (va_Qi Kn (BG D cy A Y) A) args s 0 0 A) (F0 m 107 ls []) := by
            intro M18 H locs ls hl hW hS hf
            unfold f_X3_write_107 at hf
            refine lv_goto (tgt := 3) hx hb dX3_write_107 (by decide) ?_
            exact ih3 _ _ _ _ _ (lv_sub hl [0, 1, 2, 3, 4, 5] rfl) hW hS hf
          refine lv_if_le (tgt := 107) hx hb dX3_write_78 (by decide) (fun c19 => ?_) (fun c19 => ?_)
          · replace hf := hf.1 c19
            exact j107 _ _ _ _ (lv_sub hl [2, 3, 4, 5, 6, 0] rfl) hW hS hf
          · replace hf := hf.2 c19
            refine lv_aload_n hx hb dX3_write_81 rfl (lv_at hl 2 rfl) ?_
            refine lv_dup hx hb dX3_write_82 rfl ?_
            refine gm_getI (C := RX3) (T := TX3) (N := 4) (j := 2) hx hb hts inT_3 hown hK hW k7 (by decide) rfl (by decide) rfl (hts _ kw_149) rfl dX3_write_83 ?_
            refine lv_iconst (v := 1) hx hb dX3_write_86 (by decide +kernel) ?_
            refine lv_isub hx hb dX3_write_87 ?_
            refine gm_putI (C := RX3) (T := TX3) (N := 4) (j := 2) hx hb hts inT_3 tyX3 tyX3_ok nmX3 hown hK hW hS k7 (by decide) rfl (by decide) rfl (hts _ kw_149) rfl rfl rfl rfl dX3_write_88 (fun H locs M20 eM20 hW hS => ?_)
            replace hf := hf M20 eM20
            refine lv_aload_n hx hb dX3_write_91 rfl (lv_at hl 2 rfl) ?_
            refine lv_aload_n hx hb dX3_write_92 rfl (lv_at hl 2 rfl) ?_
            refine gm_getI (C := RX3) (T := TX3) (N := 4) (j := 2) hx hb hts inT_3 hown hK hW k7 (by decide) rfl (by decide) rfl (hts _ kw_149) rfl dX3_write_93 ?_
            have j104 : ∀ (y21 : Int32) (H : Heap) (locs : List Loc) (ls : Array Slot), lv_has ls 7 [(0, .ref v0), (1, .int v1), (2, .ref v2), (3, .int v3), (4, .int v4), (5, .int x16)] → Wd D cy A Y M20 H → va_S A s.heap H locs → f_X3_write_104 Y v0 (LOOP2 (L_X3_write_3 Y v0 v1 v2 v3 v4 Kn) n3) x16 M20 y21 → W p l e rm_X3_write s m args below meth c H locs 0 0 (MQ below (va_Qi Kn (BG D cy A Y) A) args s 0 0 A) (F0 m 104 ls [.int y21, .ref v0]) := by
              intro y21 H locs ls hl hW hS hf
              unfold f_X3_write_104 at hf
              obtain ⟨z22, hf⟩ := hf
              refine gm_putI (C := RX3) (T := TX3) (N := 4) (j := 3) hx hb hts inT_3 tyX3 tyX3_ok nmX3 hown hK hW hS k7 (by decide) rfl (by decide) rfl (hts _ kw_151) rfl rfl (bz_n z22) (bz_f z22) dX3_write_104 (fun H locs M23 eM23 hW hS => ?_)
              replace hf := hf M23 eM23
              exact j107 _ _ _ _ (lv_sub hl [0, 1, 2, 3, 4, 5] rfl) hW hS hf
            refine lv_if_ne (tgt := 103) hx hb dX3_write_96 (by decide) (fun c24 => ?_) (fun c24 => ?_)
            · replace hf := hf.1 c24
              refine lv_iconst (v := 0) hx hb dX3_write_103 (by decide +kernel) ?_
              exact j104 _ _ _ _ (lv_sub hl [2, 3, 4, 5, 6, 0] rfl) hW hS hf
            · replace hf := hf.2 c24
              refine lv_iconst (v := 1) hx hb dX3_write_99 (by decide +kernel) ?_
              refine lv_goto (tgt := 104) hx hb dX3_write_100 (by decide) ?_
              exact j104 _ _ _ _ (lv_sub hl [2, 3, 4, 5, 6, 0] rfl) hW hS hf
  exact lp3 n3 _ _ _ _ _ (lv_sub hl [1, 2, 3, 4, 5, 0] rfl) hW hS hf

abbrev rm_X3_init : Room := { frames := 2, cells := 1, slots := 262144, locals := 80 }
def f_X3_init (Y : Ly) (v0 : Nat) (v1 : Int32) (M : Mm) (Kn : Ly → Mm → Prop) : Prop :=
  yK Y v0 = 3 ∧ (∀ M2 : Mm, M2 = sI M v0 (m1 (mI M v0) 2 (-1)) → (¬ (v1 * 1024) < 0 ∧ ((v1 * 1024).toNatClampNeg ≤ 262144 ∧ (∀ q5 : Nat, yK Y q5 = 0 → ∀ Y6 : Ly, Y6 = yNew Y q5 100 ((v1 * 1024).toNatClampNeg) → ∀ M7 : Mm, M7 = mZ M2 q5 → (yK Y6 v0 = 3 ∧ (∀ M9 : Mm, M9 = sR M7 v0 (m1 (mR M7 v0) 0 (some q5)) → (Kn Y6 M9)))))))
set_option maxHeartbeats 4000000 in
set_option maxRecDepth 100000 in
theorem m_X3_init (l : Launch) (D : va_G) (cy : Cy) (tq sz : Nat) (Y : Ly) (v0 : Nat) (v1 : Int32) (M : Mm) (Kn : Ly → Mm → Prop) : Met l yX3_init (Cond.code yX3_init cX3_init 2 none :: TT) rm_X3_init (PcG D cy tq [.ref v0, .int v1] sz Y M (f_X3_init Y v0 v1 M Kn)) (QA D cy (Am Y sz) Kn) 1 262144 (Am Y sz) := by
  refine Met.ofW (cc := cX3_init) (maxL := 2) (ret := none) (by decide) rfl ?_
  intro p e s m args below meth c s₁ B hml hv
  obtain ⟨hargs, hsz, hW, hK, hC, hf⟩ := hv
  subst hsz
  have hx := B.exec
  have hb := B.bytes
  have hr := B.returns
  have hts : ∀ w ∈ TT, w.before args s = true := fun w h => atoms_spec (ws := Cond.code yX3_init cX3_init 2 none :: TT) B.pre w (List.mem_cons_of_mem _ h)
  have hown : s.vm.findClass RX3 = some m.cls := findClass_of_methodNamed B.named
  have hlocks := B.notSynchronized
  have hin : meth.name = "<init>" := (name_of_methodNamed B.named B.method).1
  replace hW := Wd_self (sz := s.heap.size) hW
  generalize hAe : Am Y s.heap.size = A at hW hC ⊢
  have hA : ∀ q : Nat, s.heap.size ≤ q → A q := fun q h => by rw [← hAe]; exact Or.inr h
  clear hAe
  have hS : va_S A s.heap s.heap [] := va_S.rf
  obtain ⟨ls, hE, hl⟩ := gm_entry m [.ref v0, .int v1] (n := 2) hargs (Nat.le_of_ble_eq_true rfl)
  rw [hE]
  have hl : lv_has ls 2 [(0, .ref v0), (1, .int v1)] := hl
  show W p l e rm_X3_init s m args below meth c s.heap [] 0 0 (MQ below (QA D cy A Kn) args s 1 262144 A) (F0 m 0 ls [])
  unfold f_X3_init at hf
  refine lv_aload_n hx hb dX3_init_0 rfl (lv_at hl 0 rfl) ?_
  refine W.objInit hx hb hown (hts _ kw_141) (hts _ kw_36) (hts _ kw_37) rfl (by rw [hml]; exact hl.1) rfl dX3_init_1 (Nat.le_of_ble_eq_true rfl) (Nat.le_of_ble_eq_true rfl) ?_
  refine W.eq (g2 := F0 m 4 ls []) rfl ?_
  refine lv_aload_n hx hb dX3_init_4 rfl (lv_at hl 0 rfl) ?_
  refine lv_iconst (v := -1) hx hb dX3_init_5 (by decide +kernel) ?_
  obtain ⟨k1, hf⟩ := hf
  refine gm_putI (C := RX3) (T := TX3) (N := 4) (j := 2) hx hb hts inT_3 tyX3 tyX3_ok nmX3 hown hK hW hS k1 (by decide) rfl (by decide) rfl (hts _ kw_149) rfl rfl rfl rfl dX3_init_6 (fun H locs M2 eM2 hW hS => ?_)
  replace hf := hf M2 eM2
  refine lv_aload_n hx hb dX3_init_9 rfl (lv_at hl 0 rfl) ?_
  refine lv_iload_n hx hb dX3_init_10 rfl (lv_at hl 1 rfl) ?_
  refine lv_sipush (v := 1024) hx hb dX3_init_11 (by decide +kernel) ?_
  refine lv_imul hx hb dX3_init_14 ?_
  obtain ⟨h3, h4, hf⟩ := hf
  refine gm_newb hx hb (hts _ kw_55) hK hW hS hA (n := _) 262144 h3 rfl h4 (by decide) (by show _ ≤ 1; omega) (by show _ ≤ 262144; omega) dX3_init_15 (fun q5 H Y6 M7 h0q5 eY6 eM7 hW hS => ?_)
  replace hf := hf q5 h0q5 Y6 eY6 M7 eM7
  obtain ⟨k8, hf⟩ := hf
  refine gm_putFR (C := RX3) (T := TX3) (N := 4) (j := 0) hx hb hts inT_3 tyX3 tyX3_ok nmX3 hown hK hW hS k8 (by decide) rfl (by decide) rfl (hts _ kw_142) rfl rfl hin rfl rfl rfl dX3_init_17 (fun H locs M9 eM9 hW hS => ?_)
  replace hf := hf M9 eM9
  refine W.widen (k := 1) (n := 262144) (by omega) (by omega) ?_
  exact gm_vretA hx hb hr hlocks hW hS hf dX3_init_20

abbrev rm_X3_blocks : Room := { frames := 2, cells := 0, slots := 0, locals := 80 }
def f_X3_blocks (Y : Ly) (v0 : Nat) (M : Mm) (Kn : Int32 → Mm → Prop) : Prop :=
  yK Y v0 = 3 ∧ (∃ b2 : Nat, mR M v0 0 = some b2 ∧ (yK Y b2 = 100 ∧ (Kn ((nI (yN Y b2)) / 1024) M)))
set_option maxHeartbeats 4000000 in
set_option maxRecDepth 100000 in
theorem m_X3_blocks (l : Launch) (D : va_G) (cy : Cy) (tq sz : Nat) (Y : Ly) (v0 : Nat) (M : Mm) (Kn : Int32 → Mm → Prop) : Met l yX3_blocks (Cond.code yX3_blocks cX3_blocks 1 (some .int) :: TT) rm_X3_blocks (PcG D cy tq [.ref v0] sz Y M (f_X3_blocks Y v0 M Kn)) (va_Qi Kn (BG D cy (Am Y sz) Y) (Am Y sz)) 0 0 (Am Y sz) := by
  refine Met.ofW (cc := cX3_blocks) (maxL := 1) (ret := (some .int)) (by decide) rfl ?_
  intro p e s m args below meth c s₁ B hml hv
  obtain ⟨hargs, hsz, hW, hK, hC, hf⟩ := hv
  subst hsz
  have hx := B.exec
  have hb := B.bytes
  have hr := B.returns
  have hts : ∀ w ∈ TT, w.before args s = true := fun w h => atoms_spec (ws := Cond.code yX3_blocks cX3_blocks 1 (some .int) :: TT) B.pre w (List.mem_cons_of_mem _ h)
  have hown : s.vm.findClass RX3 = some m.cls := findClass_of_methodNamed B.named
  have hlocks := B.notSynchronized
  replace hW := Wd_self (sz := s.heap.size) hW
  generalize hAe : Am Y s.heap.size = A at hW hC ⊢
  have hA : ∀ q : Nat, s.heap.size ≤ q → A q := fun q h => by rw [← hAe]; exact Or.inr h
  clear hAe
  have hS : va_S A s.heap s.heap [] := va_S.rf
  obtain ⟨ls, hE, hl⟩ := gm_entry m [.ref v0] (n := 1) hargs (Nat.le_of_ble_eq_true rfl)
  rw [hE]
  have hl : lv_has ls 1 [(0, .ref v0)] := hl
  show W p l e rm_X3_blocks s m args below meth c s.heap [] 0 0 (MQ below (va_Qi Kn (BG D cy A Y) A) args s 0 0 A) (F0 m 0 ls [])
  unfold f_X3_blocks at hf
  refine lv_aload_n hx hb dX3_blocks_0 rfl (lv_at hl 0 rfl) ?_
  obtain ⟨k1, hf⟩ := hf
  obtain ⟨b2, hb2, hf⟩ := hf
  refine gm_getR (C := RX3) (T := TX3) (N := 4) (j := 0) hx hb hts inT_3 hown hK hW k1 (by decide) rfl (by decide) rfl (hts _ kw_142) rfl dX3_blocks_1 hb2 ?_
  obtain ⟨k3, hf⟩ := hf
  refine gm_alen hx hb hK hW (by rw [k3]; decide) dX3_blocks_4 ?_
  refine lv_sipush (v := 1024) hx hb dX3_blocks_5 (by decide +kernel) ?_
  refine lv_idiv hx hb dX3_blocks_8 (by decide) ?_
  exact gm_iret hx hb hr hlocks hW hS hf dX3_blocks_9
