/-! by gen.py: what the methods do, and that they do it -/
abbrev rm_X12_readHead : Room := { frames := 3, cells := 0, slots := 0, locals := 107 }
def f_X12_readHead_457 (Y : Ly) (Kn : Mm → Prop) (M55 : Mm) : Prop :=
  Kn M55
def f_X12_readHead_405 (Y : Ly) (v0 : Nat) (Kn : Mm → Prop) (M52 : Mm) (y53 : Int32) : Prop :=
  f_X12_field Y v0 y53 57 M52 (fun M54 => ((¬ (mI M54 v0 44) = 0 → (f_X12_readHead_457 Y Kn M54)) ∧ ((mI M54 v0 44) = 0 → (∃ b57 : Nat, mR M54 v0 10 = some b57 ∧ (f_X12_begin Y b57 17 4 M54 (fun r59 M58 => (∃ b60 : Nat, mR M58 v0 10 = some b60 ∧ (f_X12_sum Y b60 21 (mI M58 v0 11) M58 (fun r62 M61 => ((r59 = r62 → (f_X12_readHead_457 Y Kn M61)) ∧ (¬ (r59 = r62) → (∀ M64 : Mm, M64 = sI M61 v0 (m1 (mI M61 v0) 44 3) → (∀ M65 : Mm, M65 = sI M64 v0 (m1 (mI M64 v0) 45 17) → (f_X12_readHead_457 Y Kn M65))))))))))))))
def f_X12_readHead_404 (Y : Ly) (v0 : Nat) (Kn : Mm → Prop) (M52 : Mm) : Prop :=
  f_X12_readHead_405 Y v0 Kn M52 0
def f_X12_readHead_380 (Y : Ly) (v0 : Nat) (Kn : Mm → Prop) (r4 : Int64) (y50 : Int32) (M51 : Mm) : Prop :=
  f_X12_field Y v0 y50 53 M51 (fun M52 => ((r4 < 1 → (f_X12_readHead_404 Y v0 Kn M52)) ∧ (¬ (r4 < 1) → ((1000 < r4 → (f_X12_readHead_404 Y v0 Kn M52)) ∧ (¬ (1000 < r4) → (f_X12_readHead_405 Y v0 Kn M52 1))))))
def f_X12_readHead_321 (Y : Ly) (v0 : Nat) (Kn : Mm → Prop) (r4 : Int64) (r7 : Int64) (y47 : Int32) (M48 : Mm) : Prop :=
  f_X12_field Y v0 y47 51 M48 (fun M49 => ((¬ r7 = (-1) → (∃ b69 : Nat, mR M49 v0 10 = some b69 ∧ (f_X12_number Y b69 53 4 M49 (fun r71 M70 => ((r71 < 0 → (f_X12_readHead_380 Y v0 Kn r4 0 M70)) ∧ (¬ (r71 < 0) → (f_X12_readHead_380 Y v0 Kn r4 1 M70))))))) ∧ (r7 = (-1) → (∃ b73 : Nat, mR M49 v0 10 = some b73 ∧ (f_X12_number Y b73 53 4 M49 (fun r75 M74 => ((¬ r75 = (-1) → (f_X12_readHead_380 Y v0 Kn r4 0 M74)) ∧ (r75 = (-1) → (f_X12_readHead_380 Y v0 Kn r4 1 M74)))))))))
def f_X12_readHead_262 (Y : Ly) (v0 : Nat) (Kn : Mm → Prop) (r4 : Int64) (r7 : Int64) (M44 : Mm) (y45 : Int32) : Prop :=
  f_X12_field Y v0 y45 43 M44 (fun M46 => ((¬ r7 = (-1) → (∃ b78 : Nat, mR M46 v0 10 = some b78 ∧ (f_X12_number Y b78 51 2 M46 (fun r80 M79 => ((r80 < 0 → (f_X12_readHead_321 Y v0 Kn r4 r7 0 M79)) ∧ (¬ (r80 < 0) → (f_X12_readHead_321 Y v0 Kn r4 r7 1 M79))))))) ∧ (r7 = (-1) → (∃ b82 : Nat, mR M46 v0 10 = some b82 ∧ (f_X12_number Y b82 51 2 M46 (fun r84 M83 => ((¬ r84 = (-1) → (f_X12_readHead_321 Y v0 Kn r4 r7 0 M83)) ∧ (r84 = (-1) → (f_X12_readHead_321 Y v0 Kn r4 r7 1 M83)))))))))
def f_X12_readHead_261 (Y : Ly) (v0 : Nat) (Kn : Mm → Prop) (r4 : Int64) (r7 : Int64) (M44 : Mm) : Prop :=
  f_X12_readHead_262 Y v0 Kn r4 r7 M44 0
def f_X12_readHead_235 (Y : Ly) (v0 : Nat) (Kn : Mm → Prop) (r4 : Int64) (r7 : Int64) (y42 : Int32) (M43 : Mm) : Prop :=
  f_X12_field Y v0 y42 35 M43 (fun M44 => ((r7 < (-1) → (f_X12_readHead_261 Y v0 Kn r4 r7 M44)) ∧ (¬ (r7 < (-1)) → ((1125899906842624 < r7 → (f_X12_readHead_261 Y v0 Kn r4 r7 M44)) ∧ (¬ (1125899906842624 < r7) → (f_X12_readHead_262 Y v0 Kn r4 r7 M44 1))))))
def f_X12_readHead_234 (Y : Ly) (v0 : Nat) (Kn : Mm → Prop) (r4 : Int64) (r7 : Int64) (M88 : Mm) : Prop :=
  f_X12_readHead_235 Y v0 Kn r4 r7 0 M88
def f_X12_readHead_190 (Y : Ly) (v0 : Nat) (Kn : Mm → Prop) (r4 : Int64) (r7 : Int64) (y36 : Int32) (M37 : Mm) : Prop :=
  f_X12_field Y v0 y36 27 M37 (fun M38 => (∃ b39 : Nat, mR M38 v0 10 = some b39 ∧ (f_X12_number Y b39 35 8 M38 (fun r41 M40 => ((r41 < 0 → (f_X12_readHead_234 Y v0 Kn r4 r7 M40)) ∧ (¬ (r41 < 0) → (∃ b90 : Nat, mR M40 v0 10 = some b90 ∧ (f_X12_number Y b90 35 8 M40 (fun r92 M91 => ((1125899906842624 < r92 → (f_X12_readHead_234 Y v0 Kn r4 r7 M91)) ∧ (¬ (1125899906842624 < r92) → (f_X12_readHead_235 Y v0 Kn r4 r7 1 M91))))))))))))
def f_X12_readHead_189 (Y : Ly) (v0 : Nat) (Kn : Mm → Prop) (r4 : Int64) (r7 : Int64) (M94 : Mm) : Prop :=
  f_X12_readHead_190 Y v0 Kn r4 r7 0 M94
def f_X12_readHead_145 (Y : Ly) (v0 : Nat) (Kn : Mm → Prop) (r4 : Int64) (r7 : Int64) (M29 : Mm) (y31 : Int32) : Prop :=
  f_X12_field Y v0 y31 23 M29 (fun M32 => (∃ b33 : Nat, mR M32 v0 10 = some b33 ∧ (f_X12_number Y b33 27 8 M32 (fun r35 M34 => ((r35 < 0 → (f_X12_readHead_189 Y v0 Kn r4 r7 M34)) ∧ (¬ (r35 < 0) → (∃ b96 : Nat, mR M34 v0 10 = some b96 ∧ (f_X12_number Y b96 27 8 M34 (fun r98 M97 => ((1125899906842624 < r98 → (f_X12_readHead_189 Y v0 Kn r4 r7 M97)) ∧ (¬ (1125899906842624 < r98) → (f_X12_readHead_190 Y v0 Kn r4 r7 1 M97))))))))))))
def f_X12_readHead_117 (Y : Ly) (v0 : Nat) (Kn : Mm → Prop) (r4 : Int64) (r7 : Int64) (M24 : Mm) (y26 : Int32) : Prop :=
  f_X12_field Y v0 y26 21 M24 (fun M27 => (∃ b28 : Nat, mR M27 v0 10 = some b28 ∧ (f_X12_number Y b28 23 4 M27 (fun r30 M29 => ((¬ r30 = (r4 - 1) → (f_X12_readHead_145 Y v0 Kn r4 r7 M29 0)) ∧ (r30 = (r4 - 1) → (f_X12_readHead_145 Y v0 Kn r4 r7 M29 1)))))))
def f_X12_readHead_91 (Y : Ly) (v0 : Nat) (Kn : Mm → Prop) (r4 : Int64) (r7 : Int64) (M17 : Mm) (y21 : Int32) : Prop :=
  f_X12_field Y v0 y21 16 M17 (fun M22 => (∃ b23 : Nat, mR M22 v0 10 = some b23 ∧ (f_X12_number Y b23 21 2 M22 (fun r25 M24 => ((¬ r25 = 0 → (f_X12_readHead_117 Y v0 Kn r4 r7 M24 0)) ∧ (r25 = 0 → (f_X12_readHead_117 Y v0 Kn r4 r7 M24 1)))))))
def f_X12_readHead_69 (Y : Ly) (v0 : Nat) (Kn : Mm → Prop) (r4 : Int64) (r7 : Int64) (M14 : Mm) (y16 : Int32) : Prop :=
  f_X12_field Y v0 y16 12 M14 (fun M17 => (∃ b18 : Nat, mR M17 v0 10 = some b18 ∧ (yK Y b18 = 101 ∧ (vp_in 16 (yN Y b18) ∧ ((¬ (mI M17 b18 (16 : Int32).toNatClampNeg) = 2 → (f_X12_readHead_91 Y v0 Kn r4 r7 M17 0)) ∧ ((mI M17 b18 (16 : Int32).toNatClampNeg) = 2 → (f_X12_readHead_91 Y v0 Kn r4 r7 M17 1)))))))
def f_X12_readHead_44 (Y : Ly) (v0 : Nat) (Kn : Mm → Prop) (r4 : Int64) (r7 : Int64) (M9 : Mm) (y11 : Int32) : Prop :=
  f_X12_field Y v0 y11 0 M9 (fun M12 => (∃ b13 : Nat, mR M12 v0 10 = some b13 ∧ (f_X12_number Y b13 12 4 M12 (fun r15 M14 => ((¬ r15 = 0 → (f_X12_readHead_69 Y v0 Kn r4 r7 M14 0)) ∧ (r15 = 0 → (f_X12_readHead_69 Y v0 Kn r4 r7 M14 1)))))))
def f_X12_readHead (Y : Ly) (v0 : Nat) (M : Mm) (Kn : Mm → Prop) : Prop :=
  yK Y v0 = 12 ∧ (∃ b2 : Nat, mR M v0 10 = some b2 ∧ (f_X12_number Y b2 57 4 M (fun r4 M3 => (∃ b5 : Nat, mR M3 v0 10 = some b5 ∧ (f_X12_number Y b5 43 8 M3 (fun r7 M6 => (∃ b8 : Nat, mR M6 v0 10 = some b8 ∧ (f_X12_number Y b8 0 8 M6 (fun r10 M9 => ((¬ r10 = 0 → (f_X12_readHead_44 Y v0 Kn r4 r7 M9 0)) ∧ (r10 = 0 → (f_X12_readHead_44 Y v0 Kn r4 r7 M9 1))))))))))))
set_option maxHeartbeats 4000000 in
set_option maxRecDepth 100000 in
theorem m_X12_readHead (l : Launch) (D : va_G) (cy : Cy) (tq sz : Nat) (Y : Ly) (v0 : Nat) (M : Mm) (Kn : Mm → Prop) : Met l yX12_readHead (Cond.code yX12_readHead cX12_readHead 5 none :: TT) rm_X12_readHead (PcG D cy tq [.ref v0] sz Y M (f_X12_readHead Y v0 M Kn)) (va_Qv Kn (BG D cy (Am Y sz) Y) (Am Y sz)) 0 0 (Am Y sz) := by
  refine Met.ofW (cc := cX12_readHead) (maxL := 5) (ret := none) (by decide) rfl ?_
  intro p e s m args below meth c s₁ B hml hv
  obtain ⟨hargs, hsz, hW, hK, hC, hf⟩ := hv
  subst hsz
  have hx := B.exec
  have hb := B.bytes
  have hr := B.returns
  have hts : ∀ w ∈ TT, w.before args s = true := fun w h => atoms_spec (ws := Cond.code yX12_readHead cX12_readHead 5 none :: TT) B.pre w (List.mem_cons_of_mem _ h)
  have hown : s.vm.findClass RX12 = some m.cls := findClass_of_methodNamed B.named
  have hlocks := B.notSynchronized
  replace hW := Wd_self (sz := s.heap.size) hW
  generalize hAe : Am Y s.heap.size = A at hW hC ⊢
  have hA : ∀ q : Nat, s.heap.size ≤ q → A q := fun q h => by rw [← hAe]; exact Or.inr h
  clear hAe
  have hS : va_S A s.heap s.heap [] := va_S.rf
  obtain ⟨ls, hE, hl⟩ := gm_entry m [.ref v0] (n := 5) hargs (Nat.le_of_ble_eq_true rfl)
  rw [hE]
  have hl : lv_has ls 5 [(0, .ref v0)] := hl
  show W p l e rm_X12_readHead s m args below meth c s.heap [] 0 0 (MQ below (va_Qv Kn (BG D cy A Y) A) args s 0 0 A) (F0 m 0 ls [])
  unfold f_X12_readHead at hf
  refine lv_aload_n hx hb dX12_readHead_0 rfl (lv_at hl 0 rfl) ?_
  obtain ⟨k1, hf⟩ := hf
  obtain ⟨b2, hb2, hf⟩ := hf
  refine gm_getR (C := RX12) (T := TX12) (N := 68) (j := 10) hx hb hts inT_12 hown hK hW k1 (by decide) rfl (by decide) rfl (hts _ kw_1326) rfl dX12_readHead_1 hb2 ?_
  refine lv_bipush (v := 57) hx hb dX12_readHead_4 (by decide +kernel) ?_
  refine lv_iconst (v := 4) hx hb dX12_readHead_6 (by decide +kernel) ?_
  refine gm_cl (va_runS (As := [.ref b2, .int 57, .int 4]) (rest := []) ⟨hx, hb, hml, hown, hts⟩ (m_X12_number l D cy tq _ Y _ _ _ _ _) (va_cwS 3 hts (good_S kw_1520 kw_1521 kw_12 kw_1522) rfl rfl rfl (by decide +kernel) ⟨Nat.le_of_ble_eq_true rfl, Nat.le_of_ble_eq_true rfl⟩) (gm_preS hK hW hC hS hA hf) rfl rfl hl.1 rfl (lv_room (Nat.le_of_ble_eq_true rfl)) dX12_readHead_7 ⟨Nat.le_of_ble_eq_true rfl, Nat.le_of_ble_eq_true rfl⟩) hW hS hA (fun r4 M3 H locs hW hS hf => ?_)
  refine lv_lstore_n (lv' := [(1, .long r4), (0, .ref v0)]) hx hb dX12_readHead_10 rfl hl (by decide) rfl (fun ls hl => ?_)
  refine lv_aload_n hx hb dX12_readHead_11 rfl (lv_at hl 1 rfl) ?_
  obtain ⟨b5, hb5, hf⟩ := hf
  refine gm_getR (C := RX12) (T := TX12) (N := 68) (j := 10) hx hb hts inT_12 hown hK hW k1 (by decide) rfl (by decide) rfl (hts _ kw_1326) rfl dX12_readHead_12 hb5 ?_
  refine lv_bipush (v := 43) hx hb dX12_readHead_15 (by decide +kernel) ?_
  refine lv_bipush (v := 8) hx hb dX12_readHead_17 (by decide +kernel) ?_
  refine gm_cl (va_runS (As := [.ref b5, .int 43, .int 8]) (rest := []) ⟨hx, hb, hml, hown, hts⟩ (m_X12_number l D cy tq _ Y _ _ _ _ _) (va_cwS 3 hts (good_S kw_1520 kw_1521 kw_12 kw_1522) rfl rfl rfl (by decide +kernel) ⟨Nat.le_of_ble_eq_true rfl, Nat.le_of_ble_eq_true rfl⟩) (gm_preS hK hW hC hS hA hf) rfl rfl hl.1 rfl (lv_room (Nat.le_of_ble_eq_true rfl)) dX12_readHead_19 ⟨Nat.le_of_ble_eq_true rfl, Nat.le_of_ble_eq_true rfl⟩) hW hS hA (fun r7 M6 H locs hW hS hf => ?_)
  refine lv_lstore_n (lv' := [(3, .long r7), (1, .long r4), (0, .ref v0)]) hx hb dX12_readHead_22 rfl hl (by decide) rfl (fun ls hl => ?_)
  refine lv_aload_n hx hb dX12_readHead_23 rfl (lv_at hl 2 rfl) ?_
  refine lv_aload_n hx hb dX12_readHead_24 rfl (lv_at hl 2 rfl) ?_
  obtain ⟨b8, hb8, hf⟩ := hf
  refine gm_getR (C := RX12) (T := TX12) (N := 68) (j := 10) hx hb hts inT_12 hown hK hW k1 (by decide) rfl (by decide) rfl (hts _ kw_1326) rfl dX12_readHead_25 hb8 ?_
  refine lv_iconst (v := 0) hx hb dX12_readHead_28 (by decide +kernel) ?_
  refine lv_bipush (v := 8) hx hb dX12_readHead_29 (by decide +kernel) ?_
  refine gm_cl (va_runS (As := [.ref b8, .int 0, .int 8]) (rest := [.ref v0]) ⟨hx, hb, hml, hown, hts⟩ (m_X12_number l D cy tq _ Y _ _ _ _ _) (va_cwS 3 hts (good_S kw_1520 kw_1521 kw_12 kw_1522) rfl rfl rfl (by decide +kernel) ⟨Nat.le_of_ble_eq_true rfl, Nat.le_of_ble_eq_true rfl⟩) (gm_preS hK hW hC hS hA hf) rfl rfl hl.1 rfl (lv_room (Nat.le_of_ble_eq_true rfl)) dX12_readHead_31 ⟨Nat.le_of_ble_eq_true rfl, Nat.le_of_ble_eq_true rfl⟩) hW hS hA (fun r10 M9 H locs hW hS hf => ?_)
  refine lv_lconst (v := 0) hx hb dX12_readHead_34 (by decide) ?_
  refine W.lcmp hx hb dX12_readHead_35 ?_
  have j44 : ∀ (y11 : Int32) (H : Heap) (locs : List Loc) (ls : Array Slot), lv_has ls 5 [(0, .ref v0), (1, .long r4), (3, .long r7)] → Wd D cy A Y M9 H → va_S A s.heap H locs → f_X12_readHead_44 Y v0 Kn r4 r7 M9 y11 → W p l e rm_X12_readHead s m args below meth c H locs 0 0 (MQ below (va_Qv Kn (BG D cy A Y) A) args s 0 0 A) (F0 m 44 ls [.int y11, .ref v0]) := by
    intro y11 H locs ls hl hW hS hf
    unfold f_X12_readHead_44 at hf
    refine lv_iconst (v := 0) hx hb dX12_readHead_44 (by decide +kernel) ?_
    refine gm_cv (va_runV (As := [.int y11, .int 0]) (rest := []) ⟨hx, hb, hml, hown, hts⟩ (m_X12_field l D cy tq _ Y _ _ _ _ _) (cwV 2 hts (good_V kw_1527 kw_1528 kw_1831 kw_12 kw_1529) rfl rfl rfl (by decide +kernel) ⟨Nat.le_of_ble_eq_true rfl, Nat.le_of_ble_eq_true rfl⟩) (gm_preV hK hW hC hS hA k1 (by decide) (q := (RX12, TX12, 68)) rfl rfl hf) rfl rfl hl.1 rfl (lv_room (Nat.le_of_ble_eq_true rfl)) dX12_readHead_45 ⟨Nat.le_of_ble_eq_true rfl, Nat.le_of_ble_eq_true rfl⟩) hW hS hA (fun M12 H locs hW hS hf => ?_)
    refine lv_aload_n hx hb dX12_readHead_48 rfl (lv_at hl 0 rfl) ?_
    refine lv_aload_n hx hb dX12_readHead_49 rfl (lv_at hl 0 rfl) ?_
    obtain ⟨b13, hb13, hf⟩ := hf
    refine gm_getR (C := RX12) (T := TX12) (N := 68) (j := 10) hx hb hts inT_12 hown hK hW k1 (by decide) rfl (by decide) rfl (hts _ kw_1326) rfl dX12_readHead_50 hb13 ?_
    refine lv_bipush (v := 12) hx hb dX12_readHead_53 (by decide +kernel) ?_
    refine lv_iconst (v := 4) hx hb dX12_readHead_55 (by decide +kernel) ?_
    refine gm_cl (va_runS (As := [.ref b13, .int 12, .int 4]) (rest := [.ref v0]) ⟨hx, hb, hml, hown, hts⟩ (m_X12_number l D cy tq _ Y _ _ _ _ _) (va_cwS 3 hts (good_S kw_1520 kw_1521 kw_12 kw_1522) rfl rfl rfl (by decide +kernel) ⟨Nat.le_of_ble_eq_true rfl, Nat.le_of_ble_eq_true rfl⟩) (gm_preS hK hW hC hS hA hf) rfl rfl hl.1 rfl (lv_room (Nat.le_of_ble_eq_true rfl)) dX12_readHead_56 ⟨Nat.le_of_ble_eq_true rfl, Nat.le_of_ble_eq_true rfl⟩) hW hS hA (fun r15 M14 H locs hW hS hf => ?_)
    refine lv_lconst (v := 0) hx hb dX12_readHead_59 (by decide) ?_
    refine W.lcmp hx hb dX12_readHead_60 ?_
    have j69 : ∀ (y16 : Int32) (H : Heap) (locs : List Loc) (ls : Array Slot), lv_has ls 5 [(0, .ref v0), (1, .long r4), (3, .long r7)] → Wd D cy A Y M14 H → va_S A s.heap H locs → f_X12_readHead_69 Y v0 Kn r4 r7 M14 y16 → W p l e rm_X12_readHead s m args below meth c H locs 0 0 (MQ below (va_Qv Kn (BG D cy A Y) A) args s 0 0 A) (F0 m 69 ls [.int y16, .ref v0]) := by
      intro y16 H locs ls hl hW hS hf
      unfold f_X12_readHead_69 at hf
      refine lv_bipush (v := 12) hx hb dX12_readHead_69 (by decide +kernel) ?_
      refine gm_cv (va_runV (As := [.int y16, .int 12]) (rest := []) ⟨hx, hb, hml, hown, hts⟩ (m_X12_field l D cy tq _ Y _ _ _ _ _) (cwV 2 hts (good_V kw_1527 kw_1528 kw_1831 kw_12 kw_1529) rfl rfl rfl (by decide +kernel) ⟨Nat.le_of_ble_eq_true rfl, Nat.le_of_ble_eq_true rfl⟩) (gm_preV hK hW hC hS hA k1 (by decide) (q := (RX12, TX12, 68)) rfl rfl hf) rfl rfl hl.1 rfl (lv_room (Nat.le_of_ble_eq_true rfl)) dX12_readHead_71 ⟨Nat.le_of_ble_eq_true rfl, Nat.le_of_ble_eq_true rfl⟩) hW hS hA (fun M17 H locs hW hS hf => ?_)
      refine lv_aload_n hx hb dX12_readHead_74 rfl (lv_at hl 0 rfl) ?_
      refine lv_aload_n hx hb dX12_readHead_75 rfl (lv_at hl 0 rfl) ?_
      obtain ⟨b18, hb18, hf⟩ := hf
      refine gm_getR (C := RX12) (T := TX12) (N := 68) (j := 10) hx hb hts inT_12 hown hK hW k1 (by decide) rfl (by decide) rfl (hts _ kw_1326) rfl dX12_readHead_76 hb18 ?_
      refine lv_bipush (v := 16) hx hb dX12_readHead_79 (by decide +kernel) ?_
      obtain ⟨k19, hf⟩ := hf
      obtain ⟨h20, hf⟩ := hf
      refine gm_iald hx hb hK hW k19 h20 dX12_readHead_81 ?_
      refine lv_iconst (v := 2) hx hb dX12_readHead_82 (by decide +kernel) ?_
      have j91 : ∀ (y21 : Int32) (H : Heap) (locs : List Loc) (ls : Array Slot), lv_has ls 5 [(0, .ref v0), (1, .long r4), (3, .long r7)] → Wd D cy A Y M17 H → va_S A s.heap H locs → f_X12_readHead_91 Y v0 Kn r4 r7 M17 y21 → W p l e rm_X12_readHead s m args below meth c H locs 0 0 (MQ below (va_Qv Kn (BG D cy A Y) A) args s 0 0 A) (F0 m 91 ls [.int y21, .ref v0]) := by
        intro y21 H locs ls hl hW hS hf
        unfold f_X12_readHead_91 at hf
        refine lv_bipush (v := 16) hx hb dX12_readHead_91 (by decide +kernel) ?_
        refine gm_cv (va_runV (As := [.int y21, .int 16]) (rest := []) ⟨hx, hb, hml, hown, hts⟩ (m_X12_field l D cy tq _ Y _ _ _ _ _) (cwV 2 hts (good_V kw_1527 kw_1528 kw_1831 kw_12 kw_1529) rfl rfl rfl (by decide +kernel) ⟨Nat.le_of_ble_eq_true rfl, Nat.le_of_ble_eq_true rfl⟩) (gm_preV hK hW hC hS hA k1 (by decide) (q := (RX12, TX12, 68)) rfl rfl hf) rfl rfl hl.1 rfl (lv_room (Nat.le_of_ble_eq_true rfl)) dX12_readHead_93 ⟨Nat.le_of_ble_eq_true rfl, Nat.le_of_ble_eq_true rfl⟩) hW hS hA (fun M22 H locs hW hS hf => ?_)
        refine lv_aload_n hx hb dX12_readHead_96 rfl (lv_at hl 0 rfl) ?_
        refine lv_aload_n hx hb dX12_readHead_97 rfl (lv_at hl 0 rfl) ?_
        obtain ⟨b23, hb23, hf⟩ := hf
        refine gm_getR (C := RX12) (T := TX12) (N := 68) (j := 10) hx hb hts inT_12 hown hK hW k1 (by decide) rfl (by decide) rfl (hts _ kw_1326) rfl dX12_readHead_98 hb23 ?_
        refine lv_bipush (v := 21) hx hb dX12_readHead_101 (by decide +kernel) ?_
        refine lv_iconst (v := 2) hx hb dX12_readHead_103 (by decide +kernel) ?_
        refine gm_cl (va_runS (As := [.ref b23, .int 21, .int 2]) (rest := [.ref v0]) ⟨hx, hb, hml, hown, hts⟩ (m_X12_number l D cy tq _ Y _ _ _ _ _) (va_cwS 3 hts (good_S kw_1520 kw_1521 kw_12 kw_1522) rfl rfl rfl (by decide +kernel) ⟨Nat.le_of_ble_eq_true rfl, Nat.le_of_ble_eq_true rfl⟩) (gm_preS hK hW hC hS hA hf) rfl rfl hl.1 rfl (lv_room (Nat.le_of_ble_eq_true rfl)) dX12_readHead_104 ⟨Nat.le_of_ble_eq_true rfl, Nat.le_of_ble_eq_true rfl⟩) hW hS hA (fun r25 M24 H locs hW hS hf => ?_)
        refine lv_lconst (v := 0) hx hb dX12_readHead_107 (by decide) ?_
        refine W.lcmp hx hb dX12_readHead_108 ?_
        have j117 : ∀ (y26 : Int32) (H : Heap) (locs : List Loc) (ls : Array Slot), lv_has ls 5 [(0, .ref v0), (1, .long r4), (3, .long r7)] → Wd D cy A Y M24 H → va_S A s.heap H locs → f_X12_readHead_117 Y v0 Kn r4 r7 M24 y26 → W p l e rm_X12_readHead s m args below meth c H locs 0 0 (MQ below (va_Qv Kn (BG D cy A Y) A) args s 0 0 A) (F0 m 117 ls [.int y26, .ref v0]) := by
          intro y26 H locs ls hl hW hS hf
          unfold f_X12_readHead_117 at hf
          refine lv_bipush (v := 21) hx hb dX12_readHead_117 (by decide +kernel) ?_
          refine gm_cv (va_runV (As := [.int y26, .int 21]) (rest := []) ⟨hx, hb, hml, hown, hts⟩ (m_X12_field l D cy tq _ Y _ _ _ _ _) (cwV 2 hts (good_V kw_1527 kw_1528 kw_1831 kw_12 kw_1529) rfl rfl rfl (by decide +kernel) ⟨Nat.le_of_ble_eq_true rfl, Nat.le_of_ble_eq_true rfl⟩) (gm_preV hK hW hC hS hA k1 (by decide) (q := (RX12, TX12, 68)) rfl rfl hf) rfl rfl hl.1 rfl (lv_room (Nat.le_of_ble_eq_true rfl)) dX12_readHead_119 ⟨Nat.le_of_ble_eq_true rfl, Nat.le_of_ble_eq_true rfl⟩) hW hS hA (fun M27 H locs hW hS hf => ?_)
          refine lv_aload_n hx hb dX12_readHead_122 rfl (lv_at hl 0 rfl) ?_
          refine lv_aload_n hx hb dX12_readHead_123 rfl (lv_at hl 0 rfl) ?_
          obtain ⟨b28, hb28, hf⟩ := hf
          refine gm_getR (C := RX12) (T := TX12) (N := 68) (j := 10) hx hb hts inT_12 hown hK hW k1 (by decide) rfl (by decide) rfl (hts _ kw_1326) rfl dX12_readHead_124 hb28 ?_
          refine lv_bipush (v := 23) hx hb dX12_readHead_127 (by decide +kernel) ?_
          refine lv_iconst (v := 4) hx hb dX12_readHead_129 (by decide +kernel) ?_
          refine gm_cl (va_runS (As := [.ref b28, .int 23, .int 4]) (rest := [.ref v0]) ⟨hx, hb, hml, hown, hts⟩ (m_X12_number l D cy tq _ Y _ _ _ _ _) (va_cwS 3 hts (good_S kw_1520 kw_1521 kw_12 kw_1522) rfl rfl rfl (by decide +kernel) ⟨Nat.le_of_ble_eq_true rfl, Nat.le_of_ble_eq_true rfl⟩) (gm_preS hK hW hC hS hA hf) rfl rfl hl.1 rfl (lv_room (Nat.le_of_ble_eq_true rfl)) dX12_readHead_130 ⟨Nat.le_of_ble_eq_true rfl, Nat.le_of_ble_eq_true rfl⟩) hW hS hA (fun r30 M29 H locs hW hS hf => ?_)
          refine lv_lload_n hx hb dX12_readHead_133 rfl (lv_at hl 1 rfl) ?_
          refine lv_lconst (v := 1) hx hb dX12_readHead_134 (by decide) ?_
          refine lv_lsub hx hb dX12_readHead_135 ?_
          refine W.lcmp hx hb dX12_readHead_136 ?_
          have j145 : ∀ (y31 : Int32) (H : Heap) (locs : List Loc) (ls : Array Slot), lv_has ls 5 [(0, .ref v0), (1, .long r4), (3, .long r7)] → Wd D cy A Y M29 H → va_S A s.heap H locs → f_X12_readHead_145 Y v0 Kn r4 r7 M29 y31 → W p l e rm_X12_readHead s m args below meth c H locs 0 0 (MQ below (va_Qv Kn (BG D cy A Y) A) args s 0 0 A) (F0 m 145 ls [.int y31, .ref v0]) := by
            intro y31 H locs ls hl hW hS hf
            unfold f_X12_readHead_145 at hf
            refine lv_bipush (v := 23) hx hb dX12_readHead_145 (by decide +kernel) ?_
            refine gm_cv (va_runV (As := [.int y31, .int 23]) (rest := []) ⟨hx, hb, hml, hown, hts⟩ (m_X12_field l D cy tq _ Y _ _ _ _ _) (cwV 2 hts (good_V kw_1527 kw_1528 kw_1831 kw_12 kw_1529) rfl rfl rfl (by decide +kernel) ⟨Nat.le_of_ble_eq_true rfl, Nat.le_of_ble_eq_true rfl⟩) (gm_preV hK hW hC hS hA k1 (by decide) (q := (RX12, TX12, 68)) rfl rfl hf) rfl rfl hl.1 rfl (lv_room (Nat.le_of_ble_eq_true rfl)) dX12_readHead_147 ⟨Nat.le_of_ble_eq_true rfl, Nat.le_of_ble_eq_true rfl⟩) hW hS hA (fun M32 H locs hW hS hf => ?_)
            refine lv_aload_n hx hb dX12_readHead_150 rfl (lv_at hl 0 rfl) ?_
            refine lv_aload_n hx hb dX12_readHead_151 rfl (lv_at hl 0 rfl) ?_
            obtain ⟨b33, hb33, hf⟩ := hf
            refine gm_getR (C := RX12) (T := TX12) (N := 68) (j := 10) hx hb hts inT_12 hown hK hW k1 (by decide) rfl (by decide) rfl (hts _ kw_1326) rfl dX12_readHead_152 hb33 ?_
            refine lv_bipush (v := 27) hx hb dX12_readHead_155 (by decide +kernel) ?_
            refine lv_bipush (v := 8) hx hb dX12_readHead_157 (by decide +kernel) ?_
            refine gm_cl (va_runS (As := [.ref b33, .int 27, .int 8]) (rest := [.ref v0]) ⟨hx, hb, hml, hown, hts⟩ (m_X12_number l D cy tq _ Y _ _ _ _ _) (va_cwS 3 hts (good_S kw_1520 kw_1521 kw_12 kw_1522) rfl rfl rfl (by decide +kernel) ⟨Nat.le_of_ble_eq_true rfl, Nat.le_of_ble_eq_true rfl⟩) (gm_preS hK hW hC hS hA hf) rfl rfl hl.1 rfl (lv_room (Nat.le_of_ble_eq_true rfl)) dX12_readHead_159 ⟨Nat.le_of_ble_eq_true rfl, Nat.le_of_ble_eq_true rfl⟩) hW hS hA (fun r35 M34 H locs hW hS hf => ?_)
            refine lv_lconst (v := 0) hx hb dX12_readHead_162 (by decide) ?_
            refine W.lcmp hx hb dX12_readHead_163 ?_
            have j190 : ∀ (y36 : Int32) (M37 : Mm) (H : Heap) (locs : List Loc) (ls : Array Slot), lv_has ls 5 [(0, .ref v0), (1, .long r4), (3, .long r7)] → Wd D cy A Y M37 H → va_S A s.heap H locs → f_X12_readHead_190 Y v0 Kn r4 r7 y36 M37 → W p l e rm_X12_readHead s m args below meth c H locs 0 0 (MQ below (va_Qv Kn (BG D cy A Y) A) args s 0 0 A) (F0 m 190 ls [.int y36, .ref v0]) := by
              intro y36 M37 H locs ls hl hW hS hf
              unfold f_X12_readHead_190 at hf
              refine lv_bipush (v := 27) hx hb dX12_readHead_190 (by decide +kernel) ?_
              refine gm_cv (va_runV (As := [.int y36, .int 27]) (rest := []) ⟨hx, hb, hml, hown, hts⟩ (m_X12_field l D cy tq _ Y _ _ _ _ _) (cwV 2 hts (good_V kw_1527 kw_1528 kw_1831 kw_12 kw_1529) rfl rfl rfl (by decide +kernel) ⟨Nat.le_of_ble_eq_true rfl, Nat.le_of_ble_eq_true rfl⟩) (gm_preV hK hW hC hS hA k1 (by decide) (q := (RX12, TX12, 68)) rfl rfl hf) rfl rfl hl.1 rfl (lv_room (Nat.le_of_ble_eq_true rfl)) dX12_readHead_192 ⟨Nat.le_of_ble_eq_true rfl, Nat.le_of_ble_eq_true rfl⟩) hW hS hA (fun M38 H locs hW hS hf => ?_)
              refine lv_aload_n hx hb dX12_readHead_195 rfl (lv_at hl 0 rfl) ?_
              refine lv_aload_n hx hb dX12_readHead_196 rfl (lv_at hl 0 rfl) ?_
              obtain ⟨b39, hb39, hf⟩ := hf
              refine gm_getR (C := RX12) (T := TX12) (N := 68) (j := 10) hx hb hts inT_12 hown hK hW k1 (by decide) rfl (by decide) rfl (hts _ kw_1326) rfl dX12_readHead_197 hb39 ?_
              refine lv_bipush (v := 35) hx hb dX12_readHead_200 (by decide +kernel) ?_
              refine lv_bipush (v := 8) hx hb dX12_readHead_202 (by decide +kernel) ?_
              refine gm_cl (va_runS (As := [.ref b39, .int 35, .int 8]) (rest := [.ref v0]) ⟨hx, hb, hml, hown, hts⟩ (m_X12_number l D cy tq _ Y _ _ _ _ _) (va_cwS 3 hts (good_S kw_1520 kw_1521 kw_12 kw_1522) rfl rfl rfl (by decide +kernel) ⟨Nat.le_of_ble_eq_true rfl, Nat.le_of_ble_eq_true rfl⟩) (gm_preS hK hW hC hS hA hf) rfl rfl hl.1 rfl (lv_room (Nat.le_of_ble_eq_true rfl)) dX12_readHead_204 ⟨Nat.le_of_ble_eq_true rfl, Nat.le_of_ble_eq_true rfl⟩) hW hS hA (fun r41 M40 H locs hW hS hf => ?_)
              refine lv_lconst (v := 0) hx hb dX12_readHead_207 (by decide) ?_
              refine W.lcmp hx hb dX12_readHead_208 ?_
              have j235 : ∀ (y42 : Int32) (M43 : Mm) (H : Heap) (locs : List Loc) (ls : Array Slot), lv_has ls 5 [(0, .ref v0), (1, .long r4), (3, .long r7)] → Wd D cy A Y M43 H → va_S A s.heap H locs → f_X12_readHead_235 Y v0 Kn r4 r7 y42 M43 → W p l e rm_X12_readHead s m args below meth c H locs 0 0 (MQ below (va_Qv Kn (BG D cy A Y) A) args s 0 0 A) (F0 m 235 ls [.int y42, .ref v0]) := by
                intro y42 M43 H locs ls hl hW hS hf
                unfold f_X12_readHead_235 at hf
                refine lv_bipush (v := 35) hx hb dX12_readHead_235 (by decide +kernel) ?_
                refine gm_cv (va_runV (As := [.int y42, .int 35]) (rest := []) ⟨hx, hb, hml, hown, hts⟩ (m_X12_field l D cy tq _ Y _ _ _ _ _) (cwV 2 hts (good_V kw_1527 kw_1528 kw_1831 kw_12 kw_1529) rfl rfl rfl (by decide +kernel) ⟨Nat.le_of_ble_eq_true rfl, Nat.le_of_ble_eq_true rfl⟩) (gm_preV hK hW hC hS hA k1 (by decide) (q := (RX12, TX12, 68)) rfl rfl hf) rfl rfl hl.1 rfl (lv_room (Nat.le_of_ble_eq_true rfl)) dX12_readHead_237 ⟨Nat.le_of_ble_eq_true rfl, Nat.le_of_ble_eq_true rfl⟩) hW hS hA (fun M44 H locs hW hS hf => ?_)
                refine lv_aload_n hx hb dX12_readHead_240 rfl (lv_at hl 0 rfl) ?_
                refine lv_lload_n hx hb dX12_readHead_241 rfl (lv_at hl 2 rfl) ?_
                refine lv_ldc2 (v := -1) hx hb hown (hts _ kw_1523) dX12_readHead_242 ?_
                refine W.lcmp hx hb dX12_readHead_245 ?_
                have j262 : ∀ (y45 : Int32) (H : Heap) (locs : List Loc) (ls : Array Slot), lv_has ls 5 [(0, .ref v0), (1, .long r4), (3, .long r7)] → Wd D cy A Y M44 H → va_S A s.heap H locs → f_X12_readHead_262 Y v0 Kn r4 r7 M44 y45 → W p l e rm_X12_readHead s m args below meth c H locs 0 0 (MQ below (va_Qv Kn (BG D cy A Y) A) args s 0 0 A) (F0 m 262 ls [.int y45, .ref v0]) := by
                  intro y45 H locs ls hl hW hS hf
                  unfold f_X12_readHead_262 at hf
                  refine lv_bipush (v := 43) hx hb dX12_readHead_262 (by decide +kernel) ?_
                  refine gm_cv (va_runV (As := [.int y45, .int 43]) (rest := []) ⟨hx, hb, hml, hown, hts⟩ (m_X12_field l D cy tq _ Y _ _ _ _ _) (cwV 2 hts (good_V kw_1527 kw_1528 kw_1831 kw_12 kw_1529) rfl rfl rfl (by decide +kernel) ⟨Nat.le_of_ble_eq_true rfl, Nat.le_of_ble_eq_true rfl⟩) (gm_preV hK hW hC hS hA k1 (by decide) (q := (RX12, TX12, 68)) rfl rfl hf) rfl rfl hl.1 rfl (lv_room (Nat.le_of_ble_eq_true rfl)) dX12_readHead_264 ⟨Nat.le_of_ble_eq_true rfl, Nat.le_of_ble_eq_true rfl⟩) hW hS hA (fun M46 H locs hW hS hf => ?_)
                  refine lv_aload_n hx hb dX12_readHead_267 rfl (lv_at hl 0 rfl) ?_
                  refine lv_lload_n hx hb dX12_readHead_268 rfl (lv_at hl 2 rfl) ?_
                  refine lv_ldc2 (v := -1) hx hb hown (hts _ kw_1523) dX12_readHead_269 ?_
                  refine W.lcmp hx hb dX12_readHead_272 ?_
                  have j321 : ∀ (y47 : Int32) (M48 : Mm) (H : Heap) (locs : List Loc) (ls : Array Slot), lv_has ls 5 [(0, .ref v0), (1, .long r4), (3, .long r7)] → Wd D cy A Y M48 H → va_S A s.heap H locs → f_X12_readHead_321 Y v0 Kn r4 r7 y47 M48 → W p l e rm_X12_readHead s m args below meth c H locs 0 0 (MQ below (va_Qv Kn (BG D cy A Y) A) args s 0 0 A) (F0 m 321 ls [.int y47, .ref v0]) := by
                    intro y47 M48 H locs ls hl hW hS hf
                    unfold f_X12_readHead_321 at hf
                    refine lv_bipush (v := 51) hx hb dX12_readHead_321 (by decide +kernel) ?_
                    refine gm_cv (va_runV (As := [.int y47, .int 51]) (rest := []) ⟨hx, hb, hml, hown, hts⟩ (m_X12_field l D cy tq _ Y _ _ _ _ _) (cwV 2 hts (good_V kw_1527 kw_1528 kw_1831 kw_12 kw_1529) rfl rfl rfl (by decide +kernel) ⟨Nat.le_of_ble_eq_true rfl, Nat.le_of_ble_eq_true rfl⟩) (gm_preV hK hW hC hS hA k1 (by decide) (q := (RX12, TX12, 68)) rfl rfl hf) rfl rfl hl.1 rfl (lv_room (Nat.le_of_ble_eq_true rfl)) dX12_readHead_323 ⟨Nat.le_of_ble_eq_true rfl, Nat.le_of_ble_eq_true rfl⟩) hW hS hA (fun M49 H locs hW hS hf => ?_)
                    refine lv_aload_n hx hb dX12_readHead_326 rfl (lv_at hl 0 rfl) ?_
                    refine lv_lload_n hx hb dX12_readHead_327 rfl (lv_at hl 2 rfl) ?_
                    refine lv_ldc2 (v := -1) hx hb hown (hts _ kw_1523) dX12_readHead_328 ?_
                    refine W.lcmp hx hb dX12_readHead_331 ?_
                    have j380 : ∀ (y50 : Int32) (M51 : Mm) (H : Heap) (locs : List Loc) (ls : Array Slot), lv_has ls 5 [(0, .ref v0), (1, .long r4)] → Wd D cy A Y M51 H → va_S A s.heap H locs → f_X12_readHead_380 Y v0 Kn r4 y50 M51 → W p l e rm_X12_readHead s m args below meth c H locs 0 0 (MQ below (va_Qv Kn (BG D cy A Y) A) args s 0 0 A) (F0 m 380 ls [.int y50, .ref v0]) := by
                      intro y50 M51 H locs ls hl hW hS hf
                      unfold f_X12_readHead_380 at hf
                      refine lv_bipush (v := 53) hx hb dX12_readHead_380 (by decide +kernel) ?_
                      refine gm_cv (va_runV (As := [.int y50, .int 53]) (rest := []) ⟨hx, hb, hml, hown, hts⟩ (m_X12_field l D cy tq _ Y _ _ _ _ _) (cwV 2 hts (good_V kw_1527 kw_1528 kw_1831 kw_12 kw_1529) rfl rfl rfl (by decide +kernel) ⟨Nat.le_of_ble_eq_true rfl, Nat.le_of_ble_eq_true rfl⟩) (gm_preV hK hW hC hS hA k1 (by decide) (q := (RX12, TX12, 68)) rfl rfl hf) rfl rfl hl.1 rfl (lv_room (Nat.le_of_ble_eq_true rfl)) dX12_readHead_382 ⟨Nat.le_of_ble_eq_true rfl, Nat.le_of_ble_eq_true rfl⟩) hW hS hA (fun M52 H locs hW hS hf => ?_)
                      refine lv_aload_n hx hb dX12_readHead_385 rfl (lv_at hl 0 rfl) ?_
                      refine lv_lload_n hx hb dX12_readHead_386 rfl (lv_at hl 1 rfl) ?_
                      refine lv_lconst (v := 1) hx hb dX12_readHead_387 (by decide) ?_
                      refine W.lcmp hx hb dX12_readHead_388 ?_
                      have j405 : ∀ (y53 : Int32) (H : Heap) (locs : List Loc) (ls : Array Slot), lv_has ls 5 [(0, .ref v0)] → Wd D cy A Y M52 H → va_S A s.heap H locs → f_X12_readHead_405 Y v0 Kn M52 y53 → W p l e rm_X12_readHead s m args below meth c H locs 0 0 (MQ below (va_Qv Kn (BG D cy A Y) A) args s 0 0 A) (F0 m 405 ls [.int y53, .ref v0]) := by
                        intro y53 H locs ls hl hW hS hf
                        unfold f_X12_readHead_405 at hf
                        refine lv_bipush (v := 57) hx hb dX12_readHead_405 (by decide +kernel) ?_
                        refine gm_cv (va_runV (As := [.int y53, .int 57]) (rest := []) ⟨hx, hb, hml, hown, hts⟩ (m_X12_field l D cy tq _ Y _ _ _ _ _) (cwV 2 hts (good_V kw_1527 kw_1528 kw_1831 kw_12 kw_1529) rfl rfl rfl (by decide +kernel) ⟨Nat.le_of_ble_eq_true rfl, Nat.le_of_ble_eq_true rfl⟩) (gm_preV hK hW hC hS hA k1 (by decide) (q := (RX12, TX12, 68)) rfl rfl hf) rfl rfl hl.1 rfl (lv_room (Nat.le_of_ble_eq_true rfl)) dX12_readHead_407 ⟨Nat.le_of_ble_eq_true rfl, Nat.le_of_ble_eq_true rfl⟩) hW hS hA (fun M54 H locs hW hS hf => ?_)
                        refine lv_aload_n hx hb dX12_readHead_410 rfl (lv_at hl 0 rfl) ?_
                        refine gm_getI (C := RX12) (T := TX12) (N := 68) (j := 44) hx hb hts inT_12 hown hK hW k1 (by decide) rfl (by decide) rfl (hts _ kw_1360) rfl dX12_readHead_411 ?_
                        have j457 : ∀ (M55 : Mm) (H : Heap) (locs : List Loc) (ls : Array Slot), lv_has ls 5 [] → Wd D cy A Y M55 H → va_S A s.heap H locs → f_X12_readHead_457 Y Kn M55 → W p l e rm_X12_readHead s m args below meth c H locs 0 0 (MQ below (va_Qv Kn (BG D cy A Y) A) args s 0 0 A) (F0 m 457 ls []) := by
                          intro M55 H locs ls hl hW hS hf
                          unfold f_X12_readHead_457 at hf
                          exact gm_vret hx hb hr hlocks hW hS hf dX12_readHead_457
                        refine lv_if_ne (tgt := 457) hx hb dX12_readHead_414 (by decide) (fun c56 => ?_) (fun c56 => ?_)
                        · replace hf := hf.1 c56
                          exact j457 _ _ _ _ (lv_sub hl [] rfl) hW hS hf
                        · replace hf := hf.2 c56
                          refine lv_aload_n hx hb dX12_readHead_417 rfl (lv_at hl 0 rfl) ?_
                          obtain ⟨b57, hb57, hf⟩ := hf
                          refine gm_getR (C := RX12) (T := TX12) (N := 68) (j := 10) hx hb hts inT_12 hown hK hW k1 (by decide) rfl (by decide) rfl (hts _ kw_1326) rfl dX12_readHead_418 hb57 ?_
                          refine lv_bipush (v := 17) hx hb dX12_readHead_421 (by decide +kernel) ?_
                          refine lv_ldc2 (v := 4) hx hb hown (hts _ kw_1532) dX12_readHead_423 ?_
                          refine gm_cl (va_runS (As := [.ref b57, .int 17, .long 4]) (rest := []) ⟨hx, hb, hml, hown, hts⟩ (m_X12_begin l D cy tq _ Y _ _ _ _ _) (va_cwS 3 hts (good_S kw_1533 kw_1534 kw_12 kw_1535) rfl rfl rfl (by decide +kernel) ⟨Nat.le_of_ble_eq_true rfl, Nat.le_of_ble_eq_true rfl⟩) (gm_preS hK hW hC hS hA hf) rfl rfl hl.1 rfl (lv_room (Nat.le_of_ble_eq_true rfl)) dX12_readHead_426 ⟨Nat.le_of_ble_eq_true rfl, Nat.le_of_ble_eq_true rfl⟩) hW hS hA (fun r59 M58 H locs hW hS hf => ?_)
                          refine lv_aload_n hx hb dX12_readHead_429 rfl (lv_at hl 0 rfl) ?_
                          obtain ⟨b60, hb60, hf⟩ := hf
                          refine gm_getR (C := RX12) (T := TX12) (N := 68) (j := 10) hx hb hts inT_12 hown hK hW k1 (by decide) rfl (by decide) rfl (hts _ kw_1326) rfl dX12_readHead_430 hb60 ?_
                          refine lv_bipush (v := 21) hx hb dX12_readHead_433 (by decide +kernel) ?_
                          refine lv_aload_n hx hb dX12_readHead_435 rfl (lv_at hl 0 rfl) ?_
                          refine gm_getI (C := RX12) (T := TX12) (N := 68) (j := 11) hx hb hts inT_12 hown hK hW k1 (by decide) rfl (by decide) rfl (hts _ kw_1327) rfl dX12_readHead_436 ?_
                          refine gm_cl (va_runS (As := [.ref b60, .int 21, .int (mI M58 v0 11)]) (rest := [.long r59]) ⟨hx, hb, hml, hown, hts⟩ (m_X12_sum l D cy tq _ Y _ _ _ _ _) (va_cwS 3 hts (good_S kw_1505 kw_1506 kw_12 kw_1507) rfl rfl rfl (by decide +kernel) ⟨Nat.le_of_ble_eq_true rfl, Nat.le_of_ble_eq_true rfl⟩) (gm_preS hK hW hC hS hA hf) rfl rfl hl.1 rfl (lv_room (Nat.le_of_ble_eq_true rfl)) dX12_readHead_439 ⟨Nat.le_of_ble_eq_true rfl, Nat.le_of_ble_eq_true rfl⟩) hW hS hA (fun r62 M61 H locs hW hS hf => ?_)
                          refine W.lcmp hx hb dX12_readHead_442 ?_
                          refine lv_if_eq (tgt := 457) hx hb dX12_readHead_443 (by decide) (fun c63 => ?_) (fun c63 => ?_)
                          · replace hf := hf.1 (lg_eq.mp c63)
                            exact j457 _ _ _ _ (lv_sub hl [] rfl) hW hS hf
                          · replace hf := hf.2 (fun z => c63 (lg_eq.mpr z))
                            refine lv_aload_n hx hb dX12_readHead_446 rfl (lv_at hl 0 rfl) ?_
                            refine lv_iconst (v := 3) hx hb dX12_readHead_447 (by decide +kernel) ?_
                            refine gm_putI (C := RX12) (T := TX12) (N := 68) (j := 44) hx hb hts inT_12 tyX12 tyX12_ok nmX12 hown hK hW hS k1 (by decide) rfl (by decide) rfl (hts _ kw_1360) rfl rfl rfl rfl dX12_readHead_448 (fun H locs M64 eM64 hW hS => ?_)
                            replace hf := hf M64 eM64
                            refine lv_aload_n hx hb dX12_readHead_451 rfl (lv_at hl 0 rfl) ?_
                            refine lv_bipush (v := 17) hx hb dX12_readHead_452 (by decide +kernel) ?_
                            refine gm_putI (C := RX12) (T := TX12) (N := 68) (j := 45) hx hb hts inT_12 tyX12 tyX12_ok nmX12 hown hK hW hS k1 (by decide) rfl (by decide) rfl (hts _ kw_1361) rfl rfl rfl rfl dX12_readHead_454 (fun H locs M65 eM65 hW hS => ?_)
                            replace hf := hf M65 eM65
                            exact j457 _ _ _ _ (lv_sub hl [] rfl) hW hS hf
                      have j404 : ∀ (H : Heap) (locs : List Loc) (ls : Array Slot), lv_has ls 5 [(0, .ref v0)] → Wd D cy A Y M52 H → va_S A s.heap H locs → f_X12_readHead_404 Y v0 Kn M52  → W p l e rm_X12_readHead s m args below meth c H locs 0 0 (MQ below (va_Qv Kn (BG D cy A Y) A) args s 0 0 A) (F0 m 404 ls [.ref v0]) := by
                        intro  H locs ls hl hW hS hf
                        unfold f_X12_readHead_404 at hf
                        refine lv_iconst (v := 0) hx hb dX12_readHead_404 (by decide +kernel) ?_
                        exact j405 _ _ _ _ (lv_sub hl [0] rfl) hW hS hf
                      refine lv_if_lt (tgt := 404) hx hb dX12_readHead_389 (by decide) (fun c66 => ?_) (fun c66 => ?_)
                      · replace hf := hf.1 (lg_lt.mp c66)
                        exact j404  _ _ _ (lv_sub hl [0] rfl) hW hS hf
                      · replace hf := hf.2 (fun z => c66 (lg_lt.mpr z))
                        refine lv_lload_n hx hb dX12_readHead_392 rfl (lv_at hl 1 rfl) ?_
                        refine lv_ldc2 (v := 1000) hx hb hown (hts _ kw_1531) dX12_readHead_393 ?_
                        refine W.lcmp hx hb dX12_readHead_396 ?_
                        refine lv_if_gt (tgt := 404) hx hb dX12_readHead_397 (by decide) (fun c67 => ?_) (fun c67 => ?_)
                        · replace hf := hf.1 (lg_gt.mp c67)
                          exact j404  _ _ _ (lv_sub hl [0] rfl) hW hS hf
                        · replace hf := hf.2 (fun z => c67 (lg_gt.mpr z))
                          refine lv_iconst (v := 1) hx hb dX12_readHead_400 (by decide +kernel) ?_
                          refine lv_goto (tgt := 405) hx hb dX12_readHead_401 (by decide) ?_
                          exact j405 _ _ _ _ (lv_sub hl [0] rfl) hW hS hf
                    refine lv_if_ne (tgt := 360) hx hb dX12_readHead_332 (by decide) (fun c68 => ?_) (fun c68 => ?_)
                    · replace hf := hf.1 ((not_congr lg_eq).mp c68)
                      refine lv_aload_n hx hb dX12_readHead_360 rfl (lv_at hl 0 rfl) ?_
                      obtain ⟨b69, hb69, hf⟩ := hf
                      refine gm_getR (C := RX12) (T := TX12) (N := 68) (j := 10) hx hb hts inT_12 hown hK hW k1 (by decide) rfl (by decide) rfl (hts _ kw_1326) rfl dX12_readHead_361 hb69 ?_
                      refine lv_bipush (v := 53) hx hb dX12_readHead_364 (by decide +kernel) ?_
                      refine lv_iconst (v := 4) hx hb dX12_readHead_366 (by decide +kernel) ?_
                      refine gm_cl (va_runS (As := [.ref b69, .int 53, .int 4]) (rest := [.ref v0]) ⟨hx, hb, hml, hown, hts⟩ (m_X12_number l D cy tq _ Y _ _ _ _ _) (va_cwS 3 hts (good_S kw_1520 kw_1521 kw_12 kw_1522) rfl rfl rfl (by decide +kernel) ⟨Nat.le_of_ble_eq_true rfl, Nat.le_of_ble_eq_true rfl⟩) (gm_preS hK hW hC hS hA hf) rfl rfl hl.1 rfl (lv_room (Nat.le_of_ble_eq_true rfl)) dX12_readHead_367 ⟨Nat.le_of_ble_eq_true rfl, Nat.le_of_ble_eq_true rfl⟩) hW hS hA (fun r71 M70 H locs hW hS hf => ?_)
                      refine lv_lconst (v := 0) hx hb dX12_readHead_370 (by decide) ?_
                      refine W.lcmp hx hb dX12_readHead_371 ?_
                      refine lv_if_lt (tgt := 379) hx hb dX12_readHead_372 (by decide) (fun c72 => ?_) (fun c72 => ?_)
                      · replace hf := hf.1 (lg_lt.mp c72)
                        refine lv_iconst (v := 0) hx hb dX12_readHead_379 (by decide +kernel) ?_
                        exact j380 _ _ _ _ _ (lv_sub hl [0, 1] rfl) hW hS hf
                      · replace hf := hf.2 (fun z => c72 (lg_lt.mpr z))
                        refine lv_iconst (v := 1) hx hb dX12_readHead_375 (by decide +kernel) ?_
                        refine lv_goto (tgt := 380) hx hb dX12_readHead_376 (by decide) ?_
                        exact j380 _ _ _ _ _ (lv_sub hl [0, 1] rfl) hW hS hf
                    · replace hf := hf.2 (lg_eq.mp c68)
                      refine lv_aload_n hx hb dX12_readHead_335 rfl (lv_at hl 0 rfl) ?_
                      obtain ⟨b73, hb73, hf⟩ := hf
                      refine gm_getR (C := RX12) (T := TX12) (N := 68) (j := 10) hx hb hts inT_12 hown hK hW k1 (by decide) rfl (by decide) rfl (hts _ kw_1326) rfl dX12_readHead_336 hb73 ?_
                      refine lv_bipush (v := 53) hx hb dX12_readHead_339 (by decide +kernel) ?_
                      refine lv_iconst (v := 4) hx hb dX12_readHead_341 (by decide +kernel) ?_
                      refine gm_cl (va_runS (As := [.ref b73, .int 53, .int 4]) (rest := [.ref v0]) ⟨hx, hb, hml, hown, hts⟩ (m_X12_number l D cy tq _ Y _ _ _ _ _) (va_cwS 3 hts (good_S kw_1520 kw_1521 kw_12 kw_1522) rfl rfl rfl (by decide +kernel) ⟨Nat.le_of_ble_eq_true rfl, Nat.le_of_ble_eq_true rfl⟩) (gm_preS hK hW hC hS hA hf) rfl rfl hl.1 rfl (lv_room (Nat.le_of_ble_eq_true rfl)) dX12_readHead_342 ⟨Nat.le_of_ble_eq_true rfl, Nat.le_of_ble_eq_true rfl⟩) hW hS hA (fun r75 M74 H locs hW hS hf => ?_)
                      refine lv_ldc2 (v := -1) hx hb hown (hts _ kw_1523) dX12_readHead_345 ?_
                      refine W.lcmp hx hb dX12_readHead_348 ?_
                      refine lv_if_ne (tgt := 356) hx hb dX12_readHead_349 (by decide) (fun c76 => ?_) (fun c76 => ?_)
                      · replace hf := hf.1 ((not_congr lg_eq).mp c76)
                        refine lv_iconst (v := 0) hx hb dX12_readHead_356 (by decide +kernel) ?_
                        refine lv_goto (tgt := 380) hx hb dX12_readHead_357 (by decide) ?_
                        exact j380 _ _ _ _ _ (lv_sub hl [0, 1] rfl) hW hS hf
                      · replace hf := hf.2 (lg_eq.mp c76)
                        refine lv_iconst (v := 1) hx hb dX12_readHead_352 (by decide +kernel) ?_
                        refine lv_goto (tgt := 380) hx hb dX12_readHead_353 (by decide) ?_
                        exact j380 _ _ _ _ _ (lv_sub hl [0, 1] rfl) hW hS hf
                  refine lv_if_ne (tgt := 301) hx hb dX12_readHead_273 (by decide) (fun c77 => ?_) (fun c77 => ?_)
                  · replace hf := hf.1 ((not_congr lg_eq).mp c77)
                    refine lv_aload_n hx hb dX12_readHead_301 rfl (lv_at hl 0 rfl) ?_
                    obtain ⟨b78, hb78, hf⟩ := hf
                    refine gm_getR (C := RX12) (T := TX12) (N := 68) (j := 10) hx hb hts inT_12 hown hK hW k1 (by decide) rfl (by decide) rfl (hts _ kw_1326) rfl dX12_readHead_302 hb78 ?_
                    refine lv_bipush (v := 51) hx hb dX12_readHead_305 (by decide +kernel) ?_
                    refine lv_iconst (v := 2) hx hb dX12_readHead_307 (by decide +kernel) ?_
                    refine gm_cl (va_runS (As := [.ref b78, .int 51, .int 2]) (rest := [.ref v0]) ⟨hx, hb, hml, hown, hts⟩ (m_X12_number l D cy tq _ Y _ _ _ _ _) (va_cwS 3 hts (good_S kw_1520 kw_1521 kw_12 kw_1522) rfl rfl rfl (by decide +kernel) ⟨Nat.le_of_ble_eq_true rfl, Nat.le_of_ble_eq_true rfl⟩) (gm_preS hK hW hC hS hA hf) rfl rfl hl.1 rfl (lv_room (Nat.le_of_ble_eq_true rfl)) dX12_readHead_308 ⟨Nat.le_of_ble_eq_true rfl, Nat.le_of_ble_eq_true rfl⟩) hW hS hA (fun r80 M79 H locs hW hS hf => ?_)
                    refine lv_lconst (v := 0) hx hb dX12_readHead_311 (by decide) ?_
                    refine W.lcmp hx hb dX12_readHead_312 ?_
                    refine lv_if_lt (tgt := 320) hx hb dX12_readHead_313 (by decide) (fun c81 => ?_) (fun c81 => ?_)
                    · replace hf := hf.1 (lg_lt.mp c81)
                      refine lv_iconst (v := 0) hx hb dX12_readHead_320 (by decide +kernel) ?_
                      exact j321 _ _ _ _ _ (lv_sub hl [0, 1, 2] rfl) hW hS hf
                    · replace hf := hf.2 (fun z => c81 (lg_lt.mpr z))
                      refine lv_iconst (v := 1) hx hb dX12_readHead_316 (by decide +kernel) ?_
                      refine lv_goto (tgt := 321) hx hb dX12_readHead_317 (by decide) ?_
                      exact j321 _ _ _ _ _ (lv_sub hl [0, 1, 2] rfl) hW hS hf
                  · replace hf := hf.2 (lg_eq.mp c77)
                    refine lv_aload_n hx hb dX12_readHead_276 rfl (lv_at hl 0 rfl) ?_
                    obtain ⟨b82, hb82, hf⟩ := hf
                    refine gm_getR (C := RX12) (T := TX12) (N := 68) (j := 10) hx hb hts inT_12 hown hK hW k1 (by decide) rfl (by decide) rfl (hts _ kw_1326) rfl dX12_readHead_277 hb82 ?_
                    refine lv_bipush (v := 51) hx hb dX12_readHead_280 (by decide +kernel) ?_
                    refine lv_iconst (v := 2) hx hb dX12_readHead_282 (by decide +kernel) ?_
                    refine gm_cl (va_runS (As := [.ref b82, .int 51, .int 2]) (rest := [.ref v0]) ⟨hx, hb, hml, hown, hts⟩ (m_X12_number l D cy tq _ Y _ _ _ _ _) (va_cwS 3 hts (good_S kw_1520 kw_1521 kw_12 kw_1522) rfl rfl rfl (by decide +kernel) ⟨Nat.le_of_ble_eq_true rfl, Nat.le_of_ble_eq_true rfl⟩) (gm_preS hK hW hC hS hA hf) rfl rfl hl.1 rfl (lv_room (Nat.le_of_ble_eq_true rfl)) dX12_readHead_283 ⟨Nat.le_of_ble_eq_true rfl, Nat.le_of_ble_eq_true rfl⟩) hW hS hA (fun r84 M83 H locs hW hS hf => ?_)
                    refine lv_ldc2 (v := -1) hx hb hown (hts _ kw_1523) dX12_readHead_286 ?_
                    refine W.lcmp hx hb dX12_readHead_289 ?_
                    refine lv_if_ne (tgt := 297) hx hb dX12_readHead_290 (by decide) (fun c85 => ?_) (fun c85 => ?_)
                    · replace hf := hf.1 ((not_congr lg_eq).mp c85)
                      refine lv_iconst (v := 0) hx hb dX12_readHead_297 (by decide +kernel) ?_
                      refine lv_goto (tgt := 321) hx hb dX12_readHead_298 (by decide) ?_
                      exact j321 _ _ _ _ _ (lv_sub hl [0, 1, 2] rfl) hW hS hf
                    · replace hf := hf.2 (lg_eq.mp c85)
                      refine lv_iconst (v := 1) hx hb dX12_readHead_293 (by decide +kernel) ?_
                      refine lv_goto (tgt := 321) hx hb dX12_readHead_294 (by decide) ?_
                      exact j321 _ _ _ _ _ (lv_sub hl [0, 1, 2] rfl) hW hS hf
                have j261 : ∀ (H : Heap) (locs : List Loc) (ls : Array Slot), lv_has ls 5 [(0, .ref v0), (1, .long r4), (3, .long r7)] → Wd D cy A Y M44 H → va_S A s.heap H locs → f_X12_readHead_261 Y v0 Kn r4 r7 M44  → W p l e rm_X12_readHead s m args below meth c H locs 0 0 (MQ below (va_Qv Kn (BG D cy A Y) A) args s 0 0 A) (F0 m 261 ls [.ref v0]) := by
                  intro  H locs ls hl hW hS hf
                  unfold f_X12_readHead_261 at hf
                  refine lv_iconst (v := 0) hx hb dX12_readHead_261 (by decide +kernel) ?_
                  exact j262 _ _ _ _ (lv_sub hl [0, 1, 2] rfl) hW hS hf
                refine lv_if_lt (tgt := 261) hx hb dX12_readHead_246 (by decide) (fun c86 => ?_) (fun c86 => ?_)
                · replace hf := hf.1 (lg_lt.mp c86)
                  exact j261  _ _ _ (lv_sub hl [0, 1, 2] rfl) hW hS hf
                · replace hf := hf.2 (fun z => c86 (lg_lt.mpr z))
                  refine lv_lload_n hx hb dX12_readHead_249 rfl (lv_at hl 2 rfl) ?_
                  refine lv_ldc2 (v := 1125899906842624) hx hb hown (hts _ kw_1530) dX12_readHead_250 ?_
                  refine W.lcmp hx hb dX12_readHead_253 ?_
                  refine lv_if_gt (tgt := 261) hx hb dX12_readHead_254 (by decide) (fun c87 => ?_) (fun c87 => ?_)
                  · replace hf := hf.1 (lg_gt.mp c87)
                    exact j261  _ _ _ (lv_sub hl [0, 1, 2] rfl) hW hS hf
                  · replace hf := hf.2 (fun z => c87 (lg_gt.mpr z))
                    refine lv_iconst (v := 1) hx hb dX12_readHead_257 (by decide +kernel) ?_
                    refine lv_goto (tgt := 262) hx hb dX12_readHead_258 (by decide) ?_
                    exact j262 _ _ _ _ (lv_sub hl [0, 1, 2] rfl) hW hS hf
              have j234 : ∀ (M88 : Mm) (H : Heap) (locs : List Loc) (ls : Array Slot), lv_has ls 5 [(0, .ref v0), (1, .long r4), (3, .long r7)] → Wd D cy A Y M88 H → va_S A s.heap H locs → f_X12_readHead_234 Y v0 Kn r4 r7 M88 → W p l e rm_X12_readHead s m args below meth c H locs 0 0 (MQ below (va_Qv Kn (BG D cy A Y) A) args s 0 0 A) (F0 m 234 ls [.ref v0]) := by
                intro M88 H locs ls hl hW hS hf
                unfold f_X12_readHead_234 at hf
                refine lv_iconst (v := 0) hx hb dX12_readHead_234 (by decide +kernel) ?_
                exact j235 _ _ _ _ _ (lv_sub hl [0, 1, 2] rfl) hW hS hf
              refine lv_if_lt (tgt := 234) hx hb dX12_readHead_209 (by decide) (fun c89 => ?_) (fun c89 => ?_)
              · replace hf := hf.1 (lg_lt.mp c89)
                exact j234 _ _ _ _ (lv_sub hl [0, 1, 2] rfl) hW hS hf
              · replace hf := hf.2 (fun z => c89 (lg_lt.mpr z))
                refine lv_aload_n hx hb dX12_readHead_212 rfl (lv_at hl 0 rfl) ?_
                obtain ⟨b90, hb90, hf⟩ := hf
                refine gm_getR (C := RX12) (T := TX12) (N := 68) (j := 10) hx hb hts inT_12 hown hK hW k1 (by decide) rfl (by decide) rfl (hts _ kw_1326) rfl dX12_readHead_213 hb90 ?_
                refine lv_bipush (v := 35) hx hb dX12_readHead_216 (by decide +kernel) ?_
                refine lv_bipush (v := 8) hx hb dX12_readHead_218 (by decide +kernel) ?_
                refine gm_cl (va_runS (As := [.ref b90, .int 35, .int 8]) (rest := [.ref v0]) ⟨hx, hb, hml, hown, hts⟩ (m_X12_number l D cy tq _ Y _ _ _ _ _) (va_cwS 3 hts (good_S kw_1520 kw_1521 kw_12 kw_1522) rfl rfl rfl (by decide +kernel) ⟨Nat.le_of_ble_eq_true rfl, Nat.le_of_ble_eq_true rfl⟩) (gm_preS hK hW hC hS hA hf) rfl rfl hl.1 rfl (lv_room (Nat.le_of_ble_eq_true rfl)) dX12_readHead_220 ⟨Nat.le_of_ble_eq_true rfl, Nat.le_of_ble_eq_true rfl⟩) hW hS hA (fun r92 M91 H locs hW hS hf => ?_)
                refine lv_ldc2 (v := 1125899906842624) hx hb hown (hts _ kw_1530) dX12_readHead_223 ?_
                refine W.lcmp hx hb dX12_readHead_226 ?_
                refine lv_if_gt (tgt := 234) hx hb dX12_readHead_227 (by decide) (fun c93 => ?_) (fun c93 => ?_)
                · replace hf := hf.1 (lg_gt.mp c93)
                  exact j234 _ _ _ _ (lv_sub hl [0, 1, 2] rfl) hW hS hf
                · replace hf := hf.2 (fun z => c93 (lg_gt.mpr z))
                  refine lv_iconst (v := 1) hx hb dX12_readHead_230 (by decide +kernel) ?_
                  refine lv_goto (tgt := 235) hx hb dX12_readHead_231 (by decide) ?_
                  exact j235 _ _ _ _ _ (lv_sub hl [0, 1, 2] rfl) hW hS hf
            have j189 : ∀ (M94 : Mm) (H : Heap) (locs : List Loc) (ls : Array Slot), lv_has ls 5 [(0, .ref v0), (1, .long r4), (3, .long r7)] → Wd D cy A Y M94 H → va_S A s.heap H locs → f_X12_readHead_189 Y v0 Kn r4 r7 M94 → W p l e rm_X12_readHead s m args below meth c H locs 0 0 (MQ below (va_Qv Kn (BG D cy A Y) A) args s 0 0 A) (F0 m 189 ls [.ref v0]) := by
              intro M94 H locs ls hl hW hS hf
              unfold f_X12_readHead_189 at hf
              refine lv_iconst (v := 0) hx hb dX12_readHead_189 (by decide +kernel) ?_
              exact j190 _ _ _ _ _ (lv_sub hl [0, 1, 2] rfl) hW hS hf
            refine lv_if_lt (tgt := 189) hx hb dX12_readHead_164 (by decide) (fun c95 => ?_) (fun c95 => ?_)
            · replace hf := hf.1 (lg_lt.mp c95)
              exact j189 _ _ _ _ (lv_sub hl [0, 1, 2] rfl) hW hS hf
            · replace hf := hf.2 (fun z => c95 (lg_lt.mpr z))
              refine lv_aload_n hx hb dX12_readHead_167 rfl (lv_at hl 0 rfl) ?_
              obtain ⟨b96, hb96, hf⟩ := hf
              refine gm_getR (C := RX12) (T := TX12) (N := 68) (j := 10) hx hb hts inT_12 hown hK hW k1 (by decide) rfl (by decide) rfl (hts _ kw_1326) rfl dX12_readHead_168 hb96 ?_
              refine lv_bipush (v := 27) hx hb dX12_readHead_171 (by decide +kernel) ?_
              refine lv_bipush (v := 8) hx hb dX12_readHead_173 (by decide +kernel) ?_
              refine gm_cl (va_runS (As := [.ref b96, .int 27, .int 8]) (rest := [.ref v0]) ⟨hx, hb, hml, hown, hts⟩ (m_X12_number l D cy tq _ Y _ _ _ _ _) (va_cwS 3 hts (good_S kw_1520 kw_1521 kw_12 kw_1522) rfl rfl rfl (by decide +kernel) ⟨Nat.le_of_ble_eq_true rfl, Nat.le_of_ble_eq_true rfl⟩) (gm_preS hK hW hC hS hA hf) rfl rfl hl.1 rfl (lv_room (Nat.le_of_ble_eq_true rfl)) dX12_readHead_175 ⟨Nat.le_of_ble_eq_true rfl, Nat.le_of_ble_eq_true rfl⟩) hW hS hA (fun r98 M97 H locs hW hS hf => ?_)
              refine lv_ldc2 (v := 1125899906842624) hx hb hown (hts _ kw_1530) dX12_readHead_178 ?_
              refine W.lcmp hx hb dX12_readHead_181 ?_
              refine lv_if_gt (tgt := 189) hx hb dX12_readHead_182 (by decide) (fun c99 => ?_) (fun c99 => ?_)
              · replace hf := hf.1 (lg_gt.mp c99)
                exact j189 _ _ _ _ (lv_sub hl [0, 1, 2] rfl) hW hS hf
              · replace hf := hf.2 (fun z => c99 (lg_gt.mpr z))
                refine lv_iconst (v := 1) hx hb dX12_readHead_185 (by decide +kernel) ?_
                refine lv_goto (tgt := 190) hx hb dX12_readHead_186 (by decide) ?_
                exact j190 _ _ _ _ _ (lv_sub hl [0, 1, 2] rfl) hW hS hf
          refine lv_if_ne (tgt := 144) hx hb dX12_readHead_137 (by decide) (fun c100 => ?_) (fun c100 => ?_)
          · replace hf := hf.1 ((not_congr lg_eq).mp c100)
            refine lv_iconst (v := 0) hx hb dX12_readHead_144 (by decide +kernel) ?_
            exact j145 _ _ _ _ (lv_sub hl [0, 1, 2] rfl) hW hS hf
          · replace hf := hf.2 (lg_eq.mp c100)
            refine lv_iconst (v := 1) hx hb dX12_readHead_140 (by decide +kernel) ?_
            refine lv_goto (tgt := 145) hx hb dX12_readHead_141 (by decide) ?_
            exact j145 _ _ _ _ (lv_sub hl [0, 1, 2] rfl) hW hS hf
        refine lv_if_ne (tgt := 116) hx hb dX12_readHead_109 (by decide) (fun c101 => ?_) (fun c101 => ?_)
        · replace hf := hf.1 ((not_congr lg_eq).mp c101)
          refine lv_iconst (v := 0) hx hb dX12_readHead_116 (by decide +kernel) ?_
          exact j117 _ _ _ _ (lv_sub hl [0, 1, 2] rfl) hW hS hf
        · replace hf := hf.2 (lg_eq.mp c101)
          refine lv_iconst (v := 1) hx hb dX12_readHead_112 (by decide +kernel) ?_
          refine lv_goto (tgt := 117) hx hb dX12_readHead_113 (by decide) ?_
          exact j117 _ _ _ _ (lv_sub hl [0, 1, 2] rfl) hW hS hf
      refine lv_icmp_ne (tgt := 90) hx hb dX12_readHead_83 (by decide) (fun c102 => ?_) (fun c102 => ?_)
      · replace hf := hf.1 c102
        refine lv_iconst (v := 0) hx hb dX12_readHead_90 (by decide +kernel) ?_
        exact j91 _ _ _ _ (lv_sub hl [0, 1, 2] rfl) hW hS hf
      · replace hf := hf.2 c102
        refine lv_iconst (v := 1) hx hb dX12_readHead_86 (by decide +kernel) ?_
        refine lv_goto (tgt := 91) hx hb dX12_readHead_87 (by decide) ?_
        exact j91 _ _ _ _ (lv_sub hl [0, 1, 2] rfl) hW hS hf
    refine lv_if_ne (tgt := 68) hx hb dX12_readHead_61 (by decide) (fun c103 => ?_) (fun c103 => ?_)
    · replace hf := hf.1 ((not_congr lg_eq).mp c103)
      refine lv_iconst (v := 0) hx hb dX12_readHead_68 (by decide +kernel) ?_
      exact j69 _ _ _ _ (lv_sub hl [0, 1, 2] rfl) hW hS hf
    · replace hf := hf.2 (lg_eq.mp c103)
      refine lv_iconst (v := 1) hx hb dX12_readHead_64 (by decide +kernel) ?_
      refine lv_goto (tgt := 69) hx hb dX12_readHead_65 (by decide) ?_
      exact j69 _ _ _ _ (lv_sub hl [0, 1, 2] rfl) hW hS hf
  refine lv_if_ne (tgt := 43) hx hb dX12_readHead_36 (by decide) (fun c104 => ?_) (fun c104 => ?_)
  · replace hf := hf.1 ((not_congr lg_eq).mp c104)
    refine lv_iconst (v := 0) hx hb dX12_readHead_43 (by decide +kernel) ?_
    exact j44 _ _ _ _ (lv_sub hl [2, 1, 0] rfl) hW hS hf
  · replace hf := hf.2 (lg_eq.mp c104)
    refine lv_iconst (v := 1) hx hb dX12_readHead_39 (by decide +kernel) ?_
    refine lv_goto (tgt := 44) hx hb dX12_readHead_40 (by decide) ?_
    exact j44 _ _ _ _ (lv_sub hl [2, 1, 0] rfl) hW hS hf

abbrev rm_X12_readTape : Room := { frames := 5, cells := 0, slots := 0, locals := 153 }
def f_X12_readTape_41 (Y : Ly) (v0 : Nat) (Kn : Mm → Prop) (M4 : Mm) : Prop :=
  ∀ M5 : Mm, M5 = sI M4 v0 (m1 (mI M4 v0) 44 1) → (∀ M6 : Mm, M6 = sI M5 v0 (m1 (mI M5 v0) 45 8) → (Kn M6))
def f_X12_readTape_219 (Y : Ly) (Kn : Mm → Prop) (M23 : Mm) : Prop :=
  Kn M23
def f_X12_readTape_127 (Y : Ly) (v0 : Nat) (Kn : Mm → Prop) (M36 : Mm) : Prop :=
  ∀ M38 : Mm, M38 = sI M36 v0 (m1 (mI M36 v0) 44 4) → (∀ M39 : Mm, M39 = sI M38 v0 (m1 (mI M38 v0) 45 (mI M38 v0 46)) → (Kn M39))
def f_X12_readTape_158 (Y : Ly) (x17 : Int32) (again83 : Int64 → Int32 → Mm → Prop) (M36 : Mm) (y42 : Int64) : Prop :=
  ∀ x43 : Int32, x43 = x17 + 1 → (again83 y42 x43 M36)
def L_X12_readTape_83 (Y : Ly) (v0 : Nat) (Kn : Mm → Prop) (x16 : Int64) (x17 : Int32) (M18 : Mm) (again83 : Int64 → Int32 → Mm → Prop) : Prop :=
  ∃ b19 : Nat, mR M18 v0 10 = some b19 ∧ (f_X12_number Y b19 57 4 M18 (fun r21 M20 => ((r21 ≤ x17.toInt64 → (((mI M20 v0 11) ≤ (mI M20 v0 42) → (∃ b25 : Nat, mR M20 v0 10 = some b25 ∧ (f_X12_number Y b25 35 8 M20 (fun r27 M26 => ((x16 = r27 → (f_X12_readTape_219 Y Kn M26)) ∧ (¬ (x16 = r27) → (∀ M29 : Mm, M29 = sI M26 v0 (m1 (mI M26 v0) 44 5) → (∀ M30 : Mm, M30 = sI M29 v0 (m1 (mI M29 v0) 45 35) → (f_X12_readTape_219 Y Kn M30))))))))) ∧ (¬ ((mI M20 v0 11) ≤ (mI M20 v0 42)) → (∀ M31 : Mm, M31 = sI M20 v0 (m1 (mI M20 v0) 44 4) → (∀ M32 : Mm, M32 = sI M31 v0 (m1 (mI M31 v0) 45 (mI M31 v0 42)) → (f_X12_readTape_219 Y Kn M32)))))) ∧ (¬ (r21 ≤ x17.toInt64) → (∃ b33 : Nat, mR M20 v0 10 = some b33 ∧ (f_X12_number Y b33 27 8 M20 (fun r35 M34 => (f_X12_readRecord Y v0 r35 M34 (fun r37 M36 => ((r37 = 0 → (f_X12_readTape_127 Y v0 Kn M36)) ∧ (¬ (r37 = 0) → (((mJ M36 v0 48) = x17.toInt64 → (((mJ M36 v0 47) ≤ x16 → (f_X12_readTape_158 Y x17 again83 M36 x16)) ∧ (¬ ((mJ M36 v0 47) ≤ x16) → (f_X12_readTape_158 Y x17 again83 M36 (mJ M36 v0 47))))) ∧ (¬ ((mJ M36 v0 48) = x17.toInt64) → (f_X12_readTape_127 Y v0 Kn M36))))))))))))))
def f_X12_readTape (Y : Ly) (v0 : Nat) (M : Mm) (Kn : Mm → Prop) : Prop :=
  yK Y v0 = 12 ∧ (∀ M2 : Mm, M2 = sI M v0 (m1 (mI M v0) 44 0) → (∀ M3 : Mm, M3 = sI M2 v0 (m1 (mI M2 v0) 45 (-1)) → (((mI M3 v0 11) < 61 → (f_X12_readTape_41 Y v0 Kn M3)) ∧ (¬ ((mI M3 v0 11) < 61) → (∃ b8 : Nat, mR M3 v0 10 = some b8 ∧ (f_X12_number Y b8 8 4 M3 (fun r10 M9 => ((r10 = (((mI M9 v0 11) - 12).toInt64) → (f_X12_readHead Y v0 M9 (fun M12 => (((mI M12 v0 44) ≤ 0 → (∃ b14 : Nat, mR M12 v0 10 = some b14 ∧ (f_X12_reads Y v0 b14 61 (mI M12 v0 11) M12 (fun M15 => (∃ n, LOOP3 (L_X12_readTape_83 Y v0 Kn) n 0 0 M15))))) ∧ (¬ ((mI M12 v0 44) ≤ 0) → (Kn M12)))))) ∧ (¬ (r10 = (((mI M9 v0 11) - 12).toInt64)) → (f_X12_readTape_41 Y v0 Kn M9))))))))))
set_option maxHeartbeats 4000000 in
set_option maxRecDepth 100000 in
theorem m_X12_readTape (l : Launch) (D : va_G) (cy : Cy) (tq sz : Nat) (Y : Ly) (v0 : Nat) (M : Mm) (Kn : Mm → Prop) : Met l yX12_readTape (Cond.code yX12_readTape cX12_readTape 4 none :: TT) rm_X12_readTape (PcG D cy tq [.ref v0] sz Y M (f_X12_readTape Y v0 M Kn)) (va_Qv Kn (BG D cy (Am Y sz) Y) (Am Y sz)) 0 0 (Am Y sz) := by
  refine Met.ofW (cc := cX12_readTape) (maxL := 4) (ret := none) (by decide) rfl ?_
  intro p e s m args below meth c s₁ B hml hv
  obtain ⟨hargs, hsz, hW, hK, hC, hf⟩ := hv
  subst hsz
  have hx := B.exec
  have hb := B.bytes
  have hr := B.returns
  have hts : ∀ w ∈ TT, w.before args s = true := fun w h => atoms_spec (ws := Cond.code yX12_readTape cX12_readTape 4 none :: TT) B.pre w (List.mem_cons_of_mem _ h)
  have hown : s.vm.findClass RX12 = some m.cls := findClass_of_methodNamed B.named
  have hlocks := B.notSynchronized
  replace hW := Wd_self (sz := s.heap.size) hW
  generalize hAe : Am Y s.heap.size = A at hW hC ⊢
  have hA : ∀ q : Nat, s.heap.size ≤ q → A q := fun q h => by rw [← hAe]; exact Or.inr h
  clear hAe
  have hS : va_S A s.heap s.heap [] := va_S.rf
  obtain ⟨ls, hE, hl⟩ := gm_entry m [.ref v0] (n := 4) hargs (Nat.le_of_ble_eq_true rfl)
  rw [hE]
  have hl : lv_has ls 4 [(0, .ref v0)] := hl
  show W p l e rm_X12_readTape s m args below meth c s.heap [] 0 0 (MQ below (va_Qv Kn (BG D cy A Y) A) args s 0 0 A) (F0 m 0 ls [])
  unfold f_X12_readTape at hf
  refine lv_aload_n hx hb dX12_readTape_0 rfl (lv_at hl 0 rfl) ?_
  refine lv_iconst (v := 0) hx hb dX12_readTape_1 (by decide +kernel) ?_
  obtain ⟨k1, hf⟩ := hf
  refine gm_putI (C := RX12) (T := TX12) (N := 68) (j := 44) hx hb hts inT_12 tyX12 tyX12_ok nmX12 hown hK hW hS k1 (by decide) rfl (by decide) rfl (hts _ kw_1360) rfl rfl rfl rfl dX12_readTape_2 (fun H locs M2 eM2 hW hS => ?_)
  replace hf := hf M2 eM2
  refine lv_aload_n hx hb dX12_readTape_5 rfl (lv_at hl 0 rfl) ?_
  refine lv_iconst (v := -1) hx hb dX12_readTape_6 (by decide +kernel) ?_
  refine gm_putI (C := RX12) (T := TX12) (N := 68) (j := 45) hx hb hts inT_12 tyX12 tyX12_ok nmX12 hown hK hW hS k1 (by decide) rfl (by decide) rfl (hts _ kw_1361) rfl rfl rfl rfl dX12_readTape_7 (fun H locs M3 eM3 hW hS => ?_)
  replace hf := hf M3 eM3
  refine lv_aload_n hx hb dX12_readTape_10 rfl (lv_at hl 0 rfl) ?_
  refine gm_getI (C := RX12) (T := TX12) (N := 68) (j := 11) hx hb hts inT_12 hown hK hW k1 (by decide) rfl (by decide) rfl (hts _ kw_1327) rfl dX12_readTape_11 ?_
  refine lv_bipush (v := 61) hx hb dX12_readTape_14 (by decide +kernel) ?_
  have j41 : ∀ (M4 : Mm) (H : Heap) (locs : List Loc) (ls : Array Slot), lv_has ls 4 [(0, .ref v0)] → Wd D cy A Y M4 H → va_S A s.heap H locs → f_X12_readTape_41 Y v0 Kn M4 → W p l e rm_X12_readTape s m args below meth c H locs 0 0 (MQ below (va_Qv Kn (BG D cy A Y) A) args s 0 0 A) (F0 m 41 ls []) := by
    intro M4 H locs ls hl hW hS hf
    unfold f_X12_readTape_41 at hf
    refine lv_aload_n hx hb dX12_readTape_41 rfl (lv_at hl 0 rfl) ?_
    refine lv_iconst (v := 1) hx hb dX12_readTape_42 (by decide +kernel) ?_
    refine gm_putI (C := RX12) (T := TX12) (N := 68) (j := 44) hx hb hts inT_12 tyX12 tyX12_ok nmX12 hown hK hW hS k1 (by decide) rfl (by decide) rfl (hts _ kw_1360) rfl rfl rfl rfl dX12_readTape_43 (fun H locs M5 eM5 hW hS => ?_)
    replace hf := hf M5 eM5
    refine lv_aload_n hx hb dX12_readTape_46 rfl (lv_at hl 0 rfl) ?_
    refine lv_bipush (v := 8) hx hb dX12_readTape_47 (by decide +kernel) ?_
    refine gm_putI (C := RX12) (T := TX12) (N := 68) (j := 45) hx hb hts inT_12 tyX12 tyX12_ok nmX12 hown hK hW hS k1 (by decide) rfl (by decide) rfl (hts _ kw_1361) rfl rfl rfl rfl dX12_readTape_49 (fun H locs M6 eM6 hW hS => ?_)
    replace hf := hf M6 eM6
    exact gm_vret hx hb hr hlocks hW hS hf dX12_readTape_52
  refine lv_icmp_lt (tgt := 41) hx hb dX12_readTape_16 (by decide) (fun c7 => ?_) (fun c7 => ?_)
  · replace hf := hf.1 c7
    exact j41 _ _ _ _ (lv_sub hl [0] rfl) hW hS hf
  · replace hf := hf.2 c7
    refine lv_aload_n hx hb dX12_readTape_19 rfl (lv_at hl 0 rfl) ?_
    obtain ⟨b8, hb8, hf⟩ := hf
    refine gm_getR (C := RX12) (T := TX12) (N := 68) (j := 10) hx hb hts inT_12 hown hK hW k1 (by decide) rfl (by decide) rfl (hts _ kw_1326) rfl dX12_readTape_20 hb8 ?_
    refine lv_bipush (v := 8) hx hb dX12_readTape_23 (by decide +kernel) ?_
    refine lv_iconst (v := 4) hx hb dX12_readTape_25 (by decide +kernel) ?_
    refine gm_cl (va_runS (As := [.ref b8, .int 8, .int 4]) (rest := []) ⟨hx, hb, hml, hown, hts⟩ (m_X12_number l D cy tq _ Y _ _ _ _ _) (va_cwS 3 hts (good_S kw_1520 kw_1521 kw_12 kw_1522) rfl rfl rfl (by decide +kernel) ⟨Nat.le_of_ble_eq_true rfl, Nat.le_of_ble_eq_true rfl⟩) (gm_preS hK hW hC hS hA hf) rfl rfl hl.1 rfl (lv_room (Nat.le_of_ble_eq_true rfl)) dX12_readTape_26 ⟨Nat.le_of_ble_eq_true rfl, Nat.le_of_ble_eq_true rfl⟩) hW hS hA (fun r10 M9 H locs hW hS hf => ?_)
    refine lv_aload_n hx hb dX12_readTape_29 rfl (lv_at hl 0 rfl) ?_
    refine gm_getI (C := RX12) (T := TX12) (N := 68) (j := 11) hx hb hts inT_12 hown hK hW k1 (by decide) rfl (by decide) rfl (hts _ kw_1327) rfl dX12_readTape_30 ?_
    refine lv_bipush (v := 12) hx hb dX12_readTape_33 (by decide +kernel) ?_
    refine lv_isub hx hb dX12_readTape_35 ?_
    refine lv_i2l hx hb dX12_readTape_36 rfl ?_
    refine W.lcmp hx hb dX12_readTape_37 ?_
    refine lv_if_eq (tgt := 53) hx hb dX12_readTape_38 (by decide) (fun c11 => ?_) (fun c11 => ?_)
    · replace hf := hf.1 (lg_eq.mp c11)
      refine lv_aload_n hx hb dX12_readTape_53 rfl (lv_at hl 0 rfl) ?_
      refine gm_cv (va_runV (As := []) (rest := []) ⟨hx, hb, hml, hown, hts⟩ (m_X12_readHead l D cy tq _ Y _ _ _) (cwV 0 hts (good_V kw_1524 kw_1525 kw_1830 kw_12 kw_1526) rfl rfl rfl (by decide +kernel) ⟨Nat.le_of_ble_eq_true rfl, Nat.le_of_ble_eq_true rfl⟩) (gm_preV hK hW hC hS hA k1 (by decide) (q := (RX12, TX12, 68)) rfl rfl hf) rfl rfl hl.1 rfl (lv_room (Nat.le_of_ble_eq_true rfl)) dX12_readTape_54 ⟨Nat.le_of_ble_eq_true rfl, Nat.le_of_ble_eq_true rfl⟩) hW hS hA (fun M12 H locs hW hS hf => ?_)
      refine lv_aload_n hx hb dX12_readTape_57 rfl (lv_at hl 0 rfl) ?_
      refine gm_getI (C := RX12) (T := TX12) (N := 68) (j := 44) hx hb hts inT_12 hown hK hW k1 (by decide) rfl (by decide) rfl (hts _ kw_1360) rfl dX12_readTape_58 ?_
      refine lv_if_le (tgt := 65) hx hb dX12_readTape_61 (by decide) (fun c13 => ?_) (fun c13 => ?_)
      · replace hf := hf.1 c13
        refine lv_aload_n hx hb dX12_readTape_65 rfl (lv_at hl 0 rfl) ?_
        refine lv_aload_n hx hb dX12_readTape_66 rfl (lv_at hl 0 rfl) ?_
        obtain ⟨b14, hb14, hf⟩ := hf
        refine gm_getR (C := RX12) (T := TX12) (N := 68) (j := 10) hx hb hts inT_12 hown hK hW k1 (by decide) rfl (by decide) rfl (hts _ kw_1326) rfl dX12_readTape_67 hb14 ?_
        refine lv_bipush (v := 61) hx hb dX12_readTape_70 (by decide +kernel) ?_
        refine lv_aload_n hx hb dX12_readTape_72 rfl (lv_at hl 0 rfl) ?_
        refine gm_getI (C := RX12) (T := TX12) (N := 68) (j := 11) hx hb hts inT_12 hown hK hW k1 (by decide) rfl (by decide) rfl (hts _ kw_1327) rfl dX12_readTape_73 ?_
        refine gm_cv (va_runV (As := [.ref b14, .int 61, .int (mI M12 v0 11)]) (rest := []) ⟨hx, hb, hml, hown, hts⟩ (m_X12_reads l D cy tq _ Y _ _ _ _ _ _) (cwV 3 hts (good_V kw_1536 kw_1537 kw_1832 kw_12 kw_1538) rfl rfl rfl (by decide +kernel) ⟨Nat.le_of_ble_eq_true rfl, Nat.le_of_ble_eq_true rfl⟩) (gm_preV hK hW hC hS hA k1 (by decide) (q := (RX12, TX12, 68)) rfl rfl hf) rfl rfl hl.1 rfl (lv_room (Nat.le_of_ble_eq_true rfl)) dX12_readTape_76 ⟨Nat.le_of_ble_eq_true rfl, Nat.le_of_ble_eq_true rfl⟩) hW hS hA (fun M15 H locs hW hS hf => ?_)
        refine lv_lconst (v := 0) hx hb dX12_readTape_79 (by decide) ?_
        refine lv_lstore_n (lv' := [(1, .long 0), (0, .ref v0)]) hx hb dX12_readTape_80 rfl hl (by decide) rfl (fun ls hl => ?_)
        refine lv_iconst (v := 0) hx hb dX12_readTape_81 (by decide +kernel) ?_
        refine lv_istore_n (lv' := [(3, .int 0), (1, .long 0), (0, .ref v0)]) hx hb dX12_readTape_82 rfl hl (by decide) rfl (fun ls hl => ?_)
        obtain ⟨n83, hf⟩ := hf
        have lp83 : ∀ (n83 : Nat) (x16 : Int64) (x17 : Int32) (M18 : Mm) (H : Heap) (locs : List Loc) (ls : Array Slot), lv_has ls 4 [(0, .ref v0), (1, .long x16), (3, .int x17)] → Wd D cy A Y M18 H → va_S A s.heap H locs → LOOP3 (L_X12_readTape_83 Y v0 Kn) n83 x16 x17 M18 → W p l e rm_X12_readTape s m args below meth c H locs 0 0 (MQ below (va_Qv Kn (BG D cy A Y) A) args s 0 0 A) (F0 m 83 ls []) := by
          intro n83
          induction n83 with
          | zero => intro x16 x17 M18 H locs ls hl hW hS hf; exact hf.elim
          | succ n83 ih83 =>
            intro x16 x17 M18 H locs ls hl hW hS hf
            replace hf : L_X12_readTape_83 Y v0 Kn x16 x17 M18 (LOOP3 (L_X12_readTape_83 Y v0 Kn) n83) := hf
            unfold L_X12_readTape_83 at hf
            refine lv_iload_n hx hb dX12_readTape_83 rfl (lv_at hl 2 rfl) ?_
            refine lv_i2l hx hb dX12_readTape_84 rfl ?_
            refine lv_aload_n hx hb dX12_readTape_85 rfl (lv_at hl 0 rfl) ?_
            obtain ⟨b19, hb19, hf⟩ := hf
            refine gm_getR (C := RX12) (T := TX12) (N := 68) (j := 10) hx hb hts inT_12 hown hK hW k1 (by decide) rfl (by decide) rfl (hts _ kw_1326) rfl dX12_readTape_86 hb19 ?_
            refine lv_bipush (v := 57) hx hb dX12_readTape_89 (by decide +kernel) ?_
            refine lv_iconst (v := 4) hx hb dX12_readTape_91 (by decide +kernel) ?_
            refine gm_cl (va_runS (As := [.ref b19, .int 57, .int 4]) (rest := [.long x17.toInt64]) ⟨hx, hb, hml, hown, hts⟩ (m_X12_number l D cy tq _ Y _ _ _ _ _) (va_cwS 3 hts (good_S kw_1520 kw_1521 kw_12 kw_1522) rfl rfl rfl (by decide +kernel) ⟨Nat.le_of_ble_eq_true rfl, Nat.le_of_ble_eq_true rfl⟩) (gm_preS hK hW hC hS hA hf) rfl rfl hl.1 rfl (lv_room (Nat.le_of_ble_eq_true rfl)) dX12_readTape_92 ⟨Nat.le_of_ble_eq_true rfl, Nat.le_of_ble_eq_true rfl⟩) hW hS hA (fun r21 M20 H locs hW hS hf => ?_)
            refine W.lcmp hx hb dX12_readTape_95 ?_
            refine lv_if_ge (tgt := 165) hx hb dX12_readTape_96 (by decide) (fun c22 => ?_) (fun c22 => ?_)
            · replace hf := hf.1 (lg_ge.mp c22)
              refine lv_aload_n hx hb dX12_readTape_165 rfl (lv_at hl 0 rfl) ?_
              refine gm_getI (C := RX12) (T := TX12) (N := 68) (j := 42) hx hb hts inT_12 hown hK hW k1 (by decide) rfl (by decide) rfl (hts _ kw_1358) rfl dX12_readTape_166 ?_
              refine lv_aload_n hx hb dX12_readTape_169 rfl (lv_at hl 0 rfl) ?_
              refine gm_getI (C := RX12) (T := TX12) (N := 68) (j := 11) hx hb hts inT_12 hown hK hW k1 (by decide) rfl (by decide) rfl (hts _ kw_1327) rfl dX12_readTape_170 ?_
              have j219 : ∀ (M23 : Mm) (H : Heap) (locs : List Loc) (ls : Array Slot), lv_has ls 4 [] → Wd D cy A Y M23 H → va_S A s.heap H locs → f_X12_readTape_219 Y Kn M23 → W p l e rm_X12_readTape s m args below meth c H locs 0 0 (MQ below (va_Qv Kn (BG D cy A Y) A) args s 0 0 A) (F0 m 219 ls []) := by
                intro M23 H locs ls hl hW hS hf
                unfold f_X12_readTape_219 at hf
                exact gm_vret hx hb hr hlocks hW hS hf dX12_readTape_219
              refine lv_icmp_ge (tgt := 192) hx hb dX12_readTape_173 (by decide) (fun c24 => ?_) (fun c24 => ?_)
              · replace hf := hf.1 c24
                refine lv_lload_n hx hb dX12_readTape_192 rfl (lv_at hl 1 rfl) ?_
                refine lv_aload_n hx hb dX12_readTape_193 rfl (lv_at hl 0 rfl) ?_
                obtain ⟨b25, hb25, hf⟩ := hf
                refine gm_getR (C := RX12) (T := TX12) (N := 68) (j := 10) hx hb hts inT_12 hown hK hW k1 (by decide) rfl (by decide) rfl (hts _ kw_1326) rfl dX12_readTape_194 hb25 ?_
                refine lv_bipush (v := 35) hx hb dX12_readTape_197 (by decide +kernel) ?_
                refine lv_bipush (v := 8) hx hb dX12_readTape_199 (by decide +kernel) ?_
                refine gm_cl (va_runS (As := [.ref b25, .int 35, .int 8]) (rest := [.long x16]) ⟨hx, hb, hml, hown, hts⟩ (m_X12_number l D cy tq _ Y _ _ _ _ _) (va_cwS 3 hts (good_S kw_1520 kw_1521 kw_12 kw_1522) rfl rfl rfl (by decide +kernel) ⟨Nat.le_of_ble_eq_true rfl, Nat.le_of_ble_eq_true rfl⟩) (gm_preS hK hW hC hS hA hf) rfl rfl hl.1 rfl (lv_room (Nat.le_of_ble_eq_true rfl)) dX12_readTape_201 ⟨Nat.le_of_ble_eq_true rfl, Nat.le_of_ble_eq_true rfl⟩) hW hS hA (fun r27 M26 H locs hW hS hf => ?_)
                refine W.lcmp hx hb dX12_readTape_204 ?_
                refine lv_if_eq (tgt := 219) hx hb dX12_readTape_205 (by decide) (fun c28 => ?_) (fun c28 => ?_)
                · replace hf := hf.1 (lg_eq.mp c28)
                  exact j219 _ _ _ _ (lv_sub hl [] rfl) hW hS hf
                · replace hf := hf.2 (fun z => c28 (lg_eq.mpr z))
                  refine lv_aload_n hx hb dX12_readTape_208 rfl (lv_at hl 0 rfl) ?_
                  refine lv_iconst (v := 5) hx hb dX12_readTape_209 (by decide +kernel) ?_
                  refine gm_putI (C := RX12) (T := TX12) (N := 68) (j := 44) hx hb hts inT_12 tyX12 tyX12_ok nmX12 hown hK hW hS k1 (by decide) rfl (by decide) rfl (hts _ kw_1360) rfl rfl rfl rfl dX12_readTape_210 (fun H locs M29 eM29 hW hS => ?_)
                  replace hf := hf M29 eM29
                  refine lv_aload_n hx hb dX12_readTape_213 rfl (lv_at hl 0 rfl) ?_
                  refine lv_bipush (v := 35) hx hb dX12_readTape_214 (by decide +kernel) ?_
                  refine gm_putI (C := RX12) (T := TX12) (N := 68) (j := 45) hx hb hts inT_12 tyX12 tyX12_ok nmX12 hown hK hW hS k1 (by decide) rfl (by decide) rfl (hts _ kw_1361) rfl rfl rfl rfl dX12_readTape_216 (fun H locs M30 eM30 hW hS => ?_)
                  replace hf := hf M30 eM30
                  exact j219 _ _ _ _ (lv_sub hl [] rfl) hW hS hf
              · replace hf := hf.2 c24
                refine lv_aload_n hx hb dX12_readTape_176 rfl (lv_at hl 0 rfl) ?_
                refine lv_iconst (v := 4) hx hb dX12_readTape_177 (by decide +kernel) ?_
                refine gm_putI (C := RX12) (T := TX12) (N := 68) (j := 44) hx hb hts inT_12 tyX12 tyX12_ok nmX12 hown hK hW hS k1 (by decide) rfl (by decide) rfl (hts _ kw_1360) rfl rfl rfl rfl dX12_readTape_178 (fun H locs M31 eM31 hW hS => ?_)
                replace hf := hf M31 eM31
                refine lv_aload_n hx hb dX12_readTape_181 rfl (lv_at hl 0 rfl) ?_
                refine lv_aload_n hx hb dX12_readTape_182 rfl (lv_at hl 0 rfl) ?_
                refine gm_getI (C := RX12) (T := TX12) (N := 68) (j := 42) hx hb hts inT_12 hown hK hW k1 (by decide) rfl (by decide) rfl (hts _ kw_1358) rfl dX12_readTape_183 ?_
                refine gm_putI (C := RX12) (T := TX12) (N := 68) (j := 45) hx hb hts inT_12 tyX12 tyX12_ok nmX12 hown hK hW hS k1 (by decide) rfl (by decide) rfl (hts _ kw_1361) rfl rfl rfl rfl dX12_readTape_186 (fun H locs M32 eM32 hW hS => ?_)
                replace hf := hf M32 eM32
                refine lv_goto (tgt := 219) hx hb dX12_readTape_189 (by decide) ?_
                exact j219 _ _ _ _ (lv_sub hl [] rfl) hW hS hf
            · replace hf := hf.2 (fun z => c22 (lg_ge.mpr z))
              refine lv_aload_n hx hb dX12_readTape_99 rfl (lv_at hl 0 rfl) ?_
              refine lv_aload_n hx hb dX12_readTape_100 rfl (lv_at hl 0 rfl) ?_
              obtain ⟨b33, hb33, hf⟩ := hf
              refine gm_getR (C := RX12) (T := TX12) (N := 68) (j := 10) hx hb hts inT_12 hown hK hW k1 (by decide) rfl (by decide) rfl (hts _ kw_1326) rfl dX12_readTape_101 hb33 ?_
              refine lv_bipush (v := 27) hx hb dX12_readTape_104 (by decide +kernel) ?_
              refine lv_bipush (v := 8) hx hb dX12_readTape_106 (by decide +kernel) ?_
              refine gm_cl (va_runS (As := [.ref b33, .int 27, .int 8]) (rest := [.ref v0]) ⟨hx, hb, hml, hown, hts⟩ (m_X12_number l D cy tq _ Y _ _ _ _ _) (va_cwS 3 hts (good_S kw_1520 kw_1521 kw_12 kw_1522) rfl rfl rfl (by decide +kernel) ⟨Nat.le_of_ble_eq_true rfl, Nat.le_of_ble_eq_true rfl⟩) (gm_preS hK hW hC hS hA hf) rfl rfl hl.1 rfl (lv_room (Nat.le_of_ble_eq_true rfl)) dX12_readTape_108 ⟨Nat.le_of_ble_eq_true rfl, Nat.le_of_ble_eq_true rfl⟩) hW hS hA (fun r35 M34 H locs hW hS hf => ?_)
              refine gm_ci (va_runV (As := [.long r35]) (rest := []) ⟨hx, hb, hml, hown, hts⟩ (m_X12_readRecord l D cy tq _ Y _ _ _ _) (cwV 1 hts (good_V kw_1539 kw_1540 kw_1833 kw_12 kw_1541) rfl rfl rfl (by decide +kernel) ⟨Nat.le_of_ble_eq_true rfl, Nat.le_of_ble_eq_true rfl⟩) (gm_preV hK hW hC hS hA k1 (by decide) (q := (RX12, TX12, 68)) rfl rfl hf) rfl rfl hl.1 rfl (lv_room (Nat.le_of_ble_eq_true rfl)) dX12_readTape_111 ⟨Nat.le_of_ble_eq_true rfl, Nat.le_of_ble_eq_true rfl⟩) hW hS hA (fun r37 M36 H locs hW hS hf => ?_)
              have j127 : ∀ (H : Heap) (locs : List Loc) (ls : Array Slot), lv_has ls 4 [(0, .ref v0)] → Wd D cy A Y M36 H → va_S A s.heap H locs → f_X12_readTape_127 Y v0 Kn M36  → W p l e rm_X12_readTape s m args below meth c H locs 0 0 (MQ below (va_Qv Kn (BG D cy A Y) A) args s 0 0 A) (F0 m 127 ls []) := by
                intro  H locs ls hl hW hS hf
                unfold f_X12_readTape_127 at hf
                refine lv_aload_n hx hb dX12_readTape_127 rfl (lv_at hl 0 rfl) ?_
                refine lv_iconst (v := 4) hx hb dX12_readTape_128 (by decide +kernel) ?_
                refine gm_putI (C := RX12) (T := TX12) (N := 68) (j := 44) hx hb hts inT_12 tyX12 tyX12_ok nmX12 hown hK hW hS k1 (by decide) rfl (by decide) rfl (hts _ kw_1360) rfl rfl rfl rfl dX12_readTape_129 (fun H locs M38 eM38 hW hS => ?_)
                replace hf := hf M38 eM38
                refine lv_aload_n hx hb dX12_readTape_132 rfl (lv_at hl 0 rfl) ?_
                refine lv_aload_n hx hb dX12_readTape_133 rfl (lv_at hl 0 rfl) ?_
                refine gm_getI (C := RX12) (T := TX12) (N := 68) (j := 46) hx hb hts inT_12 hown hK hW k1 (by decide) rfl (by decide) rfl (hts _ kw_1362) rfl dX12_readTape_134 ?_
                refine gm_putI (C := RX12) (T := TX12) (N := 68) (j := 45) hx hb hts inT_12 tyX12 tyX12_ok nmX12 hown hK hW hS k1 (by decide) rfl (by decide) rfl (hts _ kw_1361) rfl rfl rfl rfl dX12_readTape_137 (fun H locs M39 eM39 hW hS => ?_)
                replace hf := hf M39 eM39
                exact gm_vret hx hb hr hlocks hW hS hf dX12_readTape_140
              refine lv_if_eq (tgt := 127) hx hb dX12_readTape_114 (by decide) (fun c40 => ?_) (fun c40 => ?_)
              · replace hf := hf.1 c40
                exact j127  _ _ _ (lv_sub hl [0] rfl) hW hS hf
              · replace hf := hf.2 c40
                refine lv_aload_n hx hb dX12_readTape_117 rfl (lv_at hl 0 rfl) ?_
                refine gm_getJ (C := RX12) (T := TX12) (N := 68) (j := 48) hx hb hts inT_12 hown hK hW k1 (by decide) rfl (by decide) rfl (hts _ kw_1364) rfl dX12_readTape_118 ?_
                refine lv_iload_n hx hb dX12_readTape_121 rfl (lv_at hl 2 rfl) ?_
                refine lv_i2l hx hb dX12_readTape_122 rfl ?_
                refine W.lcmp hx hb dX12_readTape_123 ?_
                refine lv_if_eq (tgt := 141) hx hb dX12_readTape_124 (by decide) (fun c41 => ?_) (fun c41 => ?_)
                · replace hf := hf.1 (lg_eq.mp c41)
                  refine lv_aload_n hx hb dX12_readTape_141 rfl (lv_at hl 0 rfl) ?_
                  refine gm_getJ (C := RX12) (T := TX12) (N := 68) (j := 47) hx hb hts inT_12 hown hK hW k1 (by decide) rfl (by decide) rfl (hts _ kw_1363) rfl dX12_readTape_142 ?_
                  refine lv_lload_n hx hb dX12_readTape_145 rfl (lv_at hl 1 rfl) ?_
                  refine W.lcmp hx hb dX12_readTape_146 ?_
                  have j158 : ∀ (y42 : Int64) (H : Heap) (locs : List Loc) (ls : Array Slot), lv_has ls 4 [(0, .ref v0), (3, .int x17)] → Wd D cy A Y M36 H → va_S A s.heap H locs → f_X12_readTape_158 Y x17 (LOOP3 (L_X12_readTape_83 Y v0 Kn) n83) M36 y42 → W p l e rm_X12_readTape s m args below meth c H locs 0 0 (MQ below (va_Qv Kn (BG D cy A Y) A) args s 0 0 A) (F0 m 158 ls [.long y42]) := by
                    intro y42 H locs ls hl hW hS hf
                    unfold f_X12_readTape_158 at hf
                    refine lv_lstore_n (lv' := [(1, .long y42), (0, .ref v0), (3, .int x17)]) hx hb dX12_readTape_158 rfl hl (by decide) rfl (fun ls hl => ?_)
                    obtain ⟨x43, ex43⟩ : ∃ y : Int32, y = x17 + 1 := ⟨_, rfl⟩
                    replace hf := hf x43 ex43
                    refine lv_iinc (v := x43) (lv' := [(3, .int x43), (1, .long y42), (0, .ref v0)]) hx hb dX12_readTape_159 hl (k := 2) rfl (by rw [ex43]; rfl) (by decide) rfl (fun ls hl => ?_)
                    refine lv_goto (tgt := 83) hx hb dX12_readTape_162 (by decide) ?_
                    exact ih83 _ _ _ _ _ _ (lv_sub hl [2, 1, 0] rfl) hW hS hf
                  refine lv_if_le (tgt := 157) hx hb dX12_readTape_147 (by decide) (fun c44 => ?_) (fun c44 => ?_)
                  · replace hf := hf.1 (lg_le.mp c44)
                    refine lv_lload_n hx hb dX12_readTape_157 rfl (lv_at hl 1 rfl) ?_
                    exact j158 _ _ _ _ (lv_sub hl [0, 2] rfl) hW hS hf
                  · replace hf := hf.2 (fun z => c44 (lg_le.mpr z))
                    refine lv_aload_n hx hb dX12_readTape_150 rfl (lv_at hl 0 rfl) ?_
                    refine gm_getJ (C := RX12) (T := TX12) (N := 68) (j := 47) hx hb hts inT_12 hown hK hW k1 (by decide) rfl (by decide) rfl (hts _ kw_1363) rfl dX12_readTape_151 ?_
                    refine lv_goto (tgt := 158) hx hb dX12_readTape_154 (by decide) ?_
                    exact j158 _ _ _ _ (lv_sub hl [0, 2] rfl) hW hS hf
                · replace hf := hf.2 (fun z => c41 (lg_eq.mpr z))
                  exact j127  _ _ _ (lv_sub hl [0] rfl) hW hS hf
        exact lp83 n83 _ _ _ _ _ _ (lv_sub hl [2, 1, 0] rfl) hW hS hf
      · replace hf := hf.2 c13
        exact gm_vret hx hb hr hlocks hW hS hf dX12_readTape_64
    · replace hf := hf.2 (fun z => c11 (lg_eq.mpr z))
      exact j41 _ _ _ _ (lv_sub hl [0] rfl) hW hS hf

abbrev rm_X12_fault : Room := { frames := 6, cells := 0, slots := 0, locals := 176 }
def f_X12_fault_46 (Y : Ly) (Kn : Int32 → Mm → Prop) (M5 : Mm) (y6 : Int32) : Prop :=
  Kn y6 M5
def f_X12_fault_15 (Y : Ly) (v0 : Nat) (v1 : Int32) (M : Mm) (Kn : Int32 → Mm → Prop) (y1 : Int32) : Prop :=
  yK Y v0 = 12 ∧ (∀ M3 : Mm, M3 = sI M v0 (m1 (mI M v0) 0 y1) → (((mI M3 v0 0) ≤ 0 → (f_X12_readTape Y v0 M3 (fun M5 => ((¬ v1 = 0 → (f_X12_fault_46 Y Kn M5 (mI M5 v0 45))) ∧ (v1 = 0 → (f_X12_fault_46 Y Kn M5 (mI M5 v0 44))))))) ∧ (¬ ((mI M3 v0 0) ≤ 0) → (Kn 0 M3))))
def f_X12_fault_10 (Y : Ly) (v0 : Nat) (v1 : Int32) (M : Mm) (Kn : Int32 → Mm → Prop) : Prop :=
  f_X12_fault_15 Y v0 v1 M Kn 0
def f_X12_fault (Y : Ly) (v0 : Nat) (v1 : Int32) (M : Mm) (Kn : Int32 → Mm → Prop) : Prop :=
  (v1 = 0 → (f_X12_fault_10 Y v0 v1 M Kn)) ∧ (¬ (v1 = 0) → ((¬ v1 = 1 → (f_X12_fault_15 Y v0 v1 M Kn 1)) ∧ (v1 = 1 → (f_X12_fault_10 Y v0 v1 M Kn))))
set_option maxHeartbeats 4000000 in
set_option maxRecDepth 100000 in
theorem m_X12_fault (l : Launch) (D : va_G) (cy : Cy) (tq sz : Nat) (Y : Ly) (v0 : Nat) (v1 : Int32) (M : Mm) (Kn : Int32 → Mm → Prop) : Met l yX12_fault (Cond.code yX12_fault cX12_fault 2 (some .int) :: TT) rm_X12_fault (PcG D cy tq [.ref v0, .int v1] sz Y M (f_X12_fault Y v0 v1 M Kn)) (va_Qi Kn (BG D cy (Am Y sz) Y) (Am Y sz)) 0 0 (Am Y sz) := by
  refine Met.ofW (cc := cX12_fault) (maxL := 2) (ret := (some .int)) (by decide) rfl ?_
  intro p e s m args below meth c s₁ B hml hv
  obtain ⟨hargs, hsz, hW, hK, hC, hf⟩ := hv
  subst hsz
  have hx := B.exec
  have hb := B.bytes
  have hr := B.returns
  have hts : ∀ w ∈ TT, w.before args s = true := fun w h => atoms_spec (ws := Cond.code yX12_fault cX12_fault 2 (some .int) :: TT) B.pre w (List.mem_cons_of_mem _ h)
  have hown : s.vm.findClass RX12 = some m.cls := findClass_of_methodNamed B.named
  have hlocks := B.notSynchronized
  replace hW := Wd_self (sz := s.heap.size) hW
  generalize hAe : Am Y s.heap.size = A at hW hC ⊢
  have hA : ∀ q : Nat, s.heap.size ≤ q → A q := fun q h => by rw [← hAe]; exact Or.inr h
  clear hAe
  have hS : va_S A s.heap s.heap [] := va_S.rf
  obtain ⟨ls, hE, hl⟩ := gm_entry m [.ref v0, .int v1] (n := 2) hargs (Nat.le_of_ble_eq_true rfl)
  rw [hE]
  have hl : lv_has ls 2 [(0, .ref v0), (1, .int v1)] := hl
  show W p l e rm_X12_fault s m args below meth c s.heap [] 0 0 (MQ below (va_Qi Kn (BG D cy A Y) A) args s 0 0 A) (F0 m 0 ls [])
  unfold f_X12_fault at hf
  refine lv_aload_n hx hb dX12_fault_0 rfl (lv_at hl 0 rfl) ?_
  refine lv_iload_n hx hb dX12_fault_1 rfl (lv_at hl 1 rfl) ?_
  have j15 : ∀ (y1 : Int32) (H : Heap) (locs : List Loc) (ls : Array Slot), lv_has ls 2 [(0, .ref v0), (1, .int v1)] → Wd D cy A Y M H → va_S A s.heap H locs → f_X12_fault_15 Y v0 v1 M Kn y1 → W p l e rm_X12_fault s m args below meth c H locs 0 0 (MQ below (va_Qi Kn (BG D cy A Y) A) args s 0 0 A) (F0 m 15 ls [.int y1, .ref v0]) := by
    intro y1 H locs ls hl hW hS hf
    unfold f_X12_fault_15 at hf
    obtain ⟨k2, hf⟩ := hf
    refine gm_putI (C := RX12) (T := TX12) (N := 68) (j := 0) hx hb hts inT_12 tyX12 tyX12_ok nmX12 hown hK hW hS k2 (by decide) rfl (by decide) rfl (hts _ kw_1316) rfl rfl rfl rfl dX12_fault_15 (fun H locs M3 eM3 hW hS => ?_)
    replace hf := hf M3 eM3
    refine lv_aload_n hx hb dX12_fault_18 rfl (lv_at hl 0 rfl) ?_
    refine gm_getI (C := RX12) (T := TX12) (N := 68) (j := 0) hx hb hts inT_12 hown hK hW k2 (by decide) rfl (by decide) rfl (hts _ kw_1316) rfl dX12_fault_19 ?_
    refine lv_if_le (tgt := 27) hx hb dX12_fault_22 (by decide) (fun c4 => ?_) (fun c4 => ?_)
    · replace hf := hf.1 c4
      refine lv_aload_n hx hb dX12_fault_27 rfl (lv_at hl 0 rfl) ?_
      refine gm_cv (va_runV (As := []) (rest := []) ⟨hx, hb, hml, hown, hts⟩ (m_X12_readTape l D cy tq _ Y _ _ _) (cwV 0 hts (good_V kw_1517 kw_1518 kw_1829 kw_12 kw_1519) rfl rfl rfl (by decide +kernel) ⟨Nat.le_of_ble_eq_true rfl, Nat.le_of_ble_eq_true rfl⟩) (gm_preV hK hW hC hS hA k2 (by decide) (q := (RX12, TX12, 68)) rfl rfl hf) rfl rfl hl.1 rfl (lv_room (Nat.le_of_ble_eq_true rfl)) dX12_fault_28 ⟨Nat.le_of_ble_eq_true rfl, Nat.le_of_ble_eq_true rfl⟩) hW hS hA (fun M5 H locs hW hS hf => ?_)
      refine lv_iload_n hx hb dX12_fault_31 rfl (lv_at hl 1 rfl) ?_
      have j46 : ∀ (y6 : Int32) (H : Heap) (locs : List Loc) (ls : Array Slot), lv_has ls 2 [] → Wd D cy A Y M5 H → va_S A s.heap H locs → f_X12_fault_46 Y Kn M5 y6 → W p l e rm_X12_fault s m args below meth c H locs 0 0 (MQ below (va_Qi Kn (BG D cy A Y) A) args s 0 0 A) (F0 m 46 ls [.int y6]) := by
        intro y6 H locs ls hl hW hS hf
        unfold f_X12_fault_46 at hf
        exact gm_iret hx hb hr hlocks hW hS hf dX12_fault_46
      refine lv_if_ne (tgt := 42) hx hb dX12_fault_32 (by decide) (fun c7 => ?_) (fun c7 => ?_)
      · replace hf := hf.1 c7
        refine lv_aload_n hx hb dX12_fault_42 rfl (lv_at hl 0 rfl) ?_
        refine gm_getI (C := RX12) (T := TX12) (N := 68) (j := 45) hx hb hts inT_12 hown hK hW k2 (by decide) rfl (by decide) rfl (hts _ kw_1361) rfl dX12_fault_43 ?_
        exact j46 _ _ _ _ (lv_sub hl [] rfl) hW hS hf
      · replace hf := hf.2 c7
        refine lv_aload_n hx hb dX12_fault_35 rfl (lv_at hl 0 rfl) ?_
        refine gm_getI (C := RX12) (T := TX12) (N := 68) (j := 44) hx hb hts inT_12 hown hK hW k2 (by decide) rfl (by decide) rfl (hts _ kw_1360) rfl dX12_fault_36 ?_
        refine lv_goto (tgt := 46) hx hb dX12_fault_39 (by decide) ?_
        exact j46 _ _ _ _ (lv_sub hl [] rfl) hW hS hf
    · replace hf := hf.2 c4
      refine lv_iconst (v := 0) hx hb dX12_fault_25 (by decide +kernel) ?_
      exact gm_iret hx hb hr hlocks hW hS hf dX12_fault_26
  have j10 : ∀ (H : Heap) (locs : List Loc) (ls : Array Slot), lv_has ls 2 [(0, .ref v0), (1, .int v1)] → Wd D cy A Y M H → va_S A s.heap H locs → f_X12_fault_10 Y v0 v1 M Kn  → W p l e rm_X12_fault s m args below meth c H locs 0 0 (MQ below (va_Qi Kn (BG D cy A Y) A) args s 0 0 A) (F0 m 10 ls [.ref v0]) := by
    intro  H locs ls hl hW hS hf
    unfold f_X12_fault_10 at hf
    refine lv_iconst (v := 0) hx hb dX12_fault_10 (by decide +kernel) ?_
    refine lv_goto (tgt := 15) hx hb dX12_fault_11 (by decide) ?_
    exact j15 _ _ _ _ (lv_sub hl [0, 1] rfl) hW hS hf
  refine lv_if_eq (tgt := 10) hx hb dX12_fault_2 (by decide) (fun c8 => ?_) (fun c8 => ?_)
  · replace hf := hf.1 c8
    exact j10  _ _ _ (lv_sub hl [0, 1] rfl) hW hS hf
  · replace hf := hf.2 c8
    refine lv_iload_n hx hb dX12_fault_5 rfl (lv_at hl 1 rfl) ?_
    refine lv_iconst (v := 1) hx hb dX12_fault_6 (by decide +kernel) ?_
    refine lv_icmp_ne (tgt := 14) hx hb dX12_fault_7 (by decide) (fun c9 => ?_) (fun c9 => ?_)
    · replace hf := hf.1 c9
      refine lv_iconst (v := 1) hx hb dX12_fault_14 (by decide +kernel) ?_
      exact j15 _ _ _ _ (lv_sub hl [0, 1] rfl) hW hS hf
    · replace hf := hf.2 c9
      exact j10  _ _ _ (lv_sub hl [0, 1] rfl) hW hS hf

abbrev rm_X12_goes : Room := { frames := 2, cells := 0, slots := 0, locals := 80 }
def f_X12_goes_36 (Y : Ly) (Kn : Int32 → Mm → Prop) (M3 : Mm) (y4 : Int32) : Prop :=
  bz y4 ∧ Kn y4 M3
def f_X12_goes_21 (Y : Ly) (v0 : Nat) (M : Mm) (Kn : Int32 → Mm → Prop) (y1 : Int32) : Prop :=
  yK Y v0 = 12 ∧ (∀ M3 : Mm, M3 = sI M v0 (m1 (mI M v0) 0 y1) → ((¬ (mI M3 v0 0) = 0 → (f_X12_goes_36 Y Kn M3 0)) ∧ ((mI M3 v0 0) = 0 → (f_X12_goes_36 Y Kn M3 1))))
def f_X12_goes (Y : Ly) (v0 : Nat) (v1 : Int32) (M : Mm) (Kn : Int32 → Mm → Prop) : Prop :=
  (¬ v1 = 0 → (yK Y v0 = 12 ∧ (((mI M v0 5) = 0 → (f_X12_goes_21 Y v0 M Kn 0)) ∧ (¬ ((mI M v0 5) = 0) → (f_X12_goes_21 Y v0 M Kn 2))))) ∧ (v1 = 0 → (f_X12_goes_21 Y v0 M Kn 1))
set_option maxHeartbeats 4000000 in
set_option maxRecDepth 100000 in
theorem m_X12_goes (l : Launch) (D : va_G) (cy : Cy) (tq sz : Nat) (Y : Ly) (v0 : Nat) (v1 : Int32) (M : Mm) (Kn : Int32 → Mm → Prop) : Met l yX12_goes (Cond.code yX12_goes cX12_goes 2 (some .boolean) :: TT) rm_X12_goes (PcG D cy tq [.ref v0, .int v1] sz Y M (f_X12_goes Y v0 v1 M Kn)) (va_Qi Kn (BG D cy (Am Y sz) Y) (Am Y sz)) 0 0 (Am Y sz) := by
  refine Met.ofW (cc := cX12_goes) (maxL := 2) (ret := (some .boolean)) (by decide) rfl ?_
  intro p e s m args below meth c s₁ B hml hv
  obtain ⟨hargs, hsz, hW, hK, hC, hf⟩ := hv
  subst hsz
  have hx := B.exec
  have hb := B.bytes
  have hr := B.returns
  have hts : ∀ w ∈ TT, w.before args s = true := fun w h => atoms_spec (ws := Cond.code yX12_goes cX12_goes 2 (some .boolean) :: TT) B.pre w (List.mem_cons_of_mem _ h)
  have hown : s.vm.findClass RX12 = some m.cls := findClass_of_methodNamed B.named
  have hlocks := B.notSynchronized
  replace hW := Wd_self (sz := s.heap.size) hW
  generalize hAe : Am Y s.heap.size = A at hW hC ⊢
  have hA : ∀ q : Nat, s.heap.size ≤ q → A q := fun q h => by rw [← hAe]; exact Or.inr h
  clear hAe
  have hS : va_S A s.heap s.heap [] := va_S.rf
  obtain ⟨ls, hE, hl⟩ := gm_entry m [.ref v0, .int v1] (n := 2) hargs (Nat.le_of_ble_eq_true rfl)
  rw [hE]
  have hl : lv_has ls 2 [(0, .ref v0), (1, .int v1)] := hl
  show W p l e rm_X12_goes s m args below meth c s.heap [] 0 0 (MQ below (va_Qi Kn (BG D cy A Y) A) args s 0 0 A) (F0 m 0 ls [])
  unfold f_X12_goes at hf
  refine lv_aload_n hx hb dX12_goes_0 rfl (lv_at hl 0 rfl) ?_
  refine lv_iload_n hx hb dX12_goes_1 rfl (lv_at hl 1 rfl) ?_
  have j21 : ∀ (y1 : Int32) (H : Heap) (locs : List Loc) (ls : Array Slot), lv_has ls 2 [(0, .ref v0)] → Wd D cy A Y M H → va_S A s.heap H locs → f_X12_goes_21 Y v0 M Kn y1 → W p l e rm_X12_goes s m args below meth c H locs 0 0 (MQ below (va_Qi Kn (BG D cy A Y) A) args s 0 0 A) (F0 m 21 ls [.int y1, .ref v0]) := by
    intro y1 H locs ls hl hW hS hf
    unfold f_X12_goes_21 at hf
    obtain ⟨k2, hf⟩ := hf
    refine gm_putI (C := RX12) (T := TX12) (N := 68) (j := 0) hx hb hts inT_12 tyX12 tyX12_ok nmX12 hown hK hW hS k2 (by decide) rfl (by decide) rfl (hts _ kw_1316) rfl rfl rfl rfl dX12_goes_21 (fun H locs M3 eM3 hW hS => ?_)
    replace hf := hf M3 eM3
    refine lv_aload_n hx hb dX12_goes_24 rfl (lv_at hl 0 rfl) ?_
    refine gm_getI (C := RX12) (T := TX12) (N := 68) (j := 0) hx hb hts inT_12 hown hK hW k2 (by decide) rfl (by decide) rfl (hts _ kw_1316) rfl dX12_goes_25 ?_
    have j36 : ∀ (y4 : Int32) (H : Heap) (locs : List Loc) (ls : Array Slot), lv_has ls 2 [] → Wd D cy A Y M3 H → va_S A s.heap H locs → f_X12_goes_36 Y Kn M3 y4 → W p l e rm_X12_goes s m args below meth c H locs 0 0 (MQ below (va_Qi Kn (BG D cy A Y) A) args s 0 0 A) (F0 m 36 ls [.int y4]) := by
      intro y4 H locs ls hl hW hS hf
      unfold f_X12_goes_36 at hf
      exact gm_zret hx hb hr hlocks hW hS hf.1 hf.2 dX12_goes_36
    refine lv_if_ne (tgt := 35) hx hb dX12_goes_28 (by decide) (fun c5 => ?_) (fun c5 => ?_)
    · replace hf := hf.1 c5
      refine lv_iconst (v := 0) hx hb dX12_goes_35 (by decide +kernel) ?_
      exact j36 _ _ _ _ (lv_sub hl [] rfl) hW hS hf
    · replace hf := hf.2 c5
      refine lv_iconst (v := 1) hx hb dX12_goes_31 (by decide +kernel) ?_
      refine lv_goto (tgt := 36) hx hb dX12_goes_32 (by decide) ?_
      exact j36 _ _ _ _ (lv_sub hl [] rfl) hW hS hf
  refine lv_if_ne (tgt := 9) hx hb dX12_goes_2 (by decide) (fun c6 => ?_) (fun c6 => ?_)
  · replace hf := hf.1 c6
    refine lv_aload_n hx hb dX12_goes_9 rfl (lv_at hl 0 rfl) ?_
    obtain ⟨k7, hf⟩ := hf
    refine gm_getI (C := RX12) (T := TX12) (N := 68) (j := 5) hx hb hts inT_12 hown hK hW k7 (by decide) rfl (by decide) rfl (hts _ kw_1321) rfl dX12_goes_10 ?_
    refine lv_if_eq (tgt := 20) hx hb dX12_goes_13 (by decide) (fun c8 => ?_) (fun c8 => ?_)
    · replace hf := hf.1 c8
      refine lv_iconst (v := 0) hx hb dX12_goes_20 (by decide +kernel) ?_
      exact j21 _ _ _ _ (lv_sub hl [0] rfl) hW hS hf
    · replace hf := hf.2 c8
      refine lv_iconst (v := 2) hx hb dX12_goes_16 (by decide +kernel) ?_
      refine lv_goto (tgt := 21) hx hb dX12_goes_17 (by decide) ?_
      exact j21 _ _ _ _ (lv_sub hl [0] rfl) hW hS hf
  · replace hf := hf.2 c6
    refine lv_iconst (v := 1) hx hb dX12_goes_5 (by decide +kernel) ?_
    refine lv_goto (tgt := 21) hx hb dX12_goes_6 (by decide) ?_
    exact j21 _ _ _ _ (lv_sub hl [0] rfl) hW hS hf

abbrev rm_X12_hold : Room := { frames := 2, cells := 0, slots := 0, locals := 80 }
def L_X12_hold_2 (Y : Ly) (v0 : Nat) (v1 : Int32) (Kn : Mm → Prop) (x1 : Int32) (M2 : Mm) (again2 : Int32 → Mm → Prop) : Prop :=
  yK Y v0 = 12 ∧ (((mI M2 v0 2) ≤ x1 → (Kn M2)) ∧ (¬ ((mI M2 v0 2) ≤ x1) → (∃ b5 : Nat, mR M2 v0 31 = some b5 ∧ (yK Y b5 = 103 ∧ (vp_in (v1 + x1) (yN Y b5) ∧ (bz 1 ∧ (∀ M9 : Mm, M9 = sI M2 b5 (m1 (mI M2 b5) (v1 + x1).toNatClampNeg 1) → (∀ x10 : Int32, x10 = x1 + 1 → (again2 x10 M9)))))))))
def f_X12_hold (Y : Ly) (v0 : Nat) (v1 : Int32) (M : Mm) (Kn : Mm → Prop) : Prop :=
  ∃ n, LOOP2 (L_X12_hold_2 Y v0 v1 Kn) n 0 M
set_option maxHeartbeats 4000000 in
set_option maxRecDepth 100000 in
theorem m_X12_hold (l : Launch) (D : va_G) (cy : Cy) (tq sz : Nat) (Y : Ly) (v0 : Nat) (v1 : Int32) (M : Mm) (Kn : Mm → Prop) : Met l yX12_hold (Cond.code yX12_hold cX12_hold 3 none :: TT) rm_X12_hold (PcG D cy tq [.ref v0, .int v1] sz Y M (f_X12_hold Y v0 v1 M Kn)) (va_Qv Kn (BG D cy (Am Y sz) Y) (Am Y sz)) 0 0 (Am Y sz) := by
  refine Met.ofW (cc := cX12_hold) (maxL := 3) (ret := none) (by decide) rfl ?_
  intro p e s m args below meth c s₁ B hml hv
  obtain ⟨hargs, hsz, hW, hK, hC, hf⟩ := hv
  subst hsz
  have hx := B.exec
  have hb := B.bytes
  have hr := B.returns
  have hts : ∀ w ∈ TT, w.before args s = true := fun w h => atoms_spec (ws := Cond.code yX12_hold cX12_hold 3 none :: TT) B.pre w (List.mem_cons_of_mem _ h)
  have hown : s.vm.findClass RX12 = some m.cls := findClass_of_methodNamed B.named
  have hlocks := B.notSynchronized
  replace hW := Wd_self (sz := s.heap.size) hW
  generalize hAe : Am Y s.heap.size = A at hW hC ⊢
  have hA : ∀ q : Nat, s.heap.size ≤ q → A q := fun q h => by rw [← hAe]; exact Or.inr h
  clear hAe
  have hS : va_S A s.heap s.heap [] := va_S.rf
  obtain ⟨ls, hE, hl⟩ := gm_entry m [.ref v0, .int v1] (n := 3) hargs (Nat.le_of_ble_eq_true rfl)
  rw [hE]
  have hl : lv_has ls 3 [(0, .ref v0), (1, .int v1)] := hl
  show W p l e rm_X12_hold s m args below meth c s.heap [] 0 0 (MQ below (va_Qv Kn (BG D cy A Y) A) args s 0 0 A) (F0 m 0 ls [])
  unfold f_X12_hold at hf
  refine lv_iconst (v := 0) hx hb dX12_hold_0 (by decide +kernel) ?_
  refine lv_istore_n (lv' := [(2, .int 0), (0, .ref v0), (1, .int v1)]) hx hb dX12_hold_1 rfl hl (by decide) rfl (fun ls hl => ?_)
  obtain ⟨n2, hf⟩ := hf
  have lp2 : ∀ (n2 : Nat) (x1 : Int32) (M2 : Mm) (H : Heap) (locs : List Loc) (ls : Array Slot), lv_has ls 3 [(0, .ref v0), (1, .int v1), (2, .int x1)] → Wd D cy A Y M2 H → va_S A s.heap H locs → LOOP2 (L_X12_hold_2 Y v0 v1 Kn) n2 x1 M2 → W p l e rm_X12_hold s m args below meth c H locs 0 0 (MQ below (va_Qv Kn (BG D cy A Y) A) args s 0 0 A) (F0 m 2 ls []) := by
    intro n2
    induction n2 with
    | zero => intro x1 M2 H locs ls hl hW hS hf; exact hf.elim
    | succ n2 ih2 =>
      intro x1 M2 H locs ls hl hW hS hf
      replace hf : L_X12_hold_2 Y v0 v1 Kn x1 M2 (LOOP2 (L_X12_hold_2 Y v0 v1 Kn) n2) := hf
      unfold L_X12_hold_2 at hf
      refine lv_iload_n hx hb dX12_hold_2 rfl (lv_at hl 2 rfl) ?_
      refine lv_aload_n hx hb dX12_hold_3 rfl (lv_at hl 0 rfl) ?_
      obtain ⟨k3, hf⟩ := hf
      refine gm_getI (C := RX12) (T := TX12) (N := 68) (j := 2) hx hb hts inT_12 hown hK hW k3 (by decide) rfl (by decide) rfl (hts _ kw_1318) rfl dX12_hold_4 ?_
      refine lv_icmp_ge (tgt := 25) hx hb dX12_hold_7 (by decide) (fun c4 => ?_) (fun c4 => ?_)
      · replace hf := hf.1 c4
        exact gm_vret hx hb hr hlocks hW hS hf dX12_hold_25
      · replace hf := hf.2 c4
        refine lv_aload_n hx hb dX12_hold_10 rfl (lv_at hl 0 rfl) ?_
        obtain ⟨b5, hb5, hf⟩ := hf
        refine gm_getR (C := RX12) (T := TX12) (N := 68) (j := 31) hx hb hts inT_12 hown hK hW k3 (by decide) rfl (by decide) rfl (hts _ kw_1347) rfl dX12_hold_11 hb5 ?_
        refine lv_iload_n hx hb dX12_hold_14 rfl (lv_at hl 1 rfl) ?_
        refine lv_iload_n hx hb dX12_hold_15 rfl (lv_at hl 2 rfl) ?_
        refine lv_iadd hx hb dX12_hold_16 ?_
        refine lv_iconst (v := 1) hx hb dX12_hold_17 (by decide +kernel) ?_
        obtain ⟨k6, hf⟩ := hf
        obtain ⟨h7, hf⟩ := hf
        obtain ⟨z8, hf⟩ := hf
        refine gm_zast hx hb hK hW hS k6 h7 (bz_v z8) dX12_hold_18 (fun H locs M9 eM9 hW hS => ?_)
        replace hf := hf M9 eM9
        obtain ⟨x10, ex10⟩ : ∃ y : Int32, y = x1 + 1 := ⟨_, rfl⟩
        replace hf := hf x10 ex10
        refine lv_iinc (v := x10) (lv' := [(2, .int x10), (0, .ref v0), (1, .int v1)]) hx hb dX12_hold_19 hl (k := 2) rfl (by rw [ex10]; rfl) (by decide) rfl (fun ls hl => ?_)
        refine lv_goto (tgt := 2) hx hb dX12_hold_22 (by decide) ?_
        exact ih2 _ _ _ _ _ (lv_sub hl [1, 2, 0] rfl) hW hS hf
  exact lp2 n2 _ _ _ _ _ (lv_sub hl [1, 2, 0] rfl) hW hS hf

abbrev rm_X12_mark : Room := { frames := 3, cells := 0, slots := 0, locals := 102 }
def L_X12_mark_49 (Y : Ly) (v0 : Nat) (x5 : Int32) (again39 : Int32 → Mm → Prop) (x8 : Int32) (M9 : Mm) (again49 : Int32 → Mm → Prop) : Prop :=
  ∃ b10 : Nat, mR M9 v0 28 = some b10 ∧ (yK Y b10 = 101 ∧ (vp_in x5 (yN Y b10) ∧ (((mI M9 b10 x5.toNatClampNeg) ≤ x8 → (∀ x14 : Int32, x14 = x5 + 1 → (again39 x14 M9))) ∧ (¬ ((mI M9 b10 x5.toNatClampNeg) ≤ x8) → (∃ b15 : Nat, mR M9 v0 29 = some b15 ∧ (yK Y b15 = 101 ∧ (vp_in ((60 * x5) + x8) (yN Y b15) ∧ (f_X12_hold Y v0 (mI M9 b15 ((60 * x5) + x8).toNatClampNeg) M9 (fun M18 => (∀ x19 : Int32, x19 = x8 + 1 → (again49 x19 M18)))))))))))
def L_X12_mark_39 (Y : Ly) (v0 : Nat) (Kn : Mm → Prop) (x5 : Int32) (M6 : Mm) (again39 : Int32 → Mm → Prop) : Prop :=
  ((mI M6 v0 1) < x5 → (Kn M6)) ∧ (¬ ((mI M6 v0 1) < x5) → (∃ n, LOOP2 (L_X12_mark_49 Y v0 x5 again39) n 0 M6))
def f_X12_mark_30 (Y : Ly) (x1 : Int32) (M2 : Mm) (again2 : Int32 → Mm → Prop) (b20 : Nat) (y21 : Int32) : Prop :=
  yK Y b20 = 103 ∧ (vp_in x1 (yN Y b20) ∧ (bz y21 ∧ (∀ M25 : Mm, M25 = sI M2 b20 (m1 (mI M2 b20) x1.toNatClampNeg y21) → (∀ x26 : Int32, x26 = x1 + 1 → (again2 x26 M25)))))
def L_X12_mark_2 (Y : Ly) (v0 : Nat) (Kn : Mm → Prop) (x1 : Int32) (M2 : Mm) (again2 : Int32 → Mm → Prop) : Prop :=
  yK Y v0 = 12 ∧ (((mI M2 v0 3) ≤ x1 → (∃ n, LOOP2 (L_X12_mark_39 Y v0 Kn) n 0 M2)) ∧ (¬ ((mI M2 v0 3) ≤ x1) → (∃ b20 : Nat, mR M2 v0 31 = some b20 ∧ ((((mI M2 v0 1) + 2) ≤ x1 → (f_X12_mark_30 Y x1 M2 again2 b20 0)) ∧ (¬ (((mI M2 v0 1) + 2) ≤ x1) → (f_X12_mark_30 Y x1 M2 again2 b20 1))))))
def f_X12_mark (Y : Ly) (v0 : Nat) (M : Mm) (Kn : Mm → Prop) : Prop :=
  ∃ n, LOOP2 (L_X12_mark_2 Y v0 Kn) n 0 M
set_option maxHeartbeats 4000000 in
set_option maxRecDepth 100000 in
theorem m_X12_mark (l : Launch) (D : va_G) (cy : Cy) (tq sz : Nat) (Y : Ly) (v0 : Nat) (M : Mm) (Kn : Mm → Prop) : Met l yX12_mark (Cond.code yX12_mark cX12_mark 3 none :: TT) rm_X12_mark (PcG D cy tq [.ref v0] sz Y M (f_X12_mark Y v0 M Kn)) (va_Qv Kn (BG D cy (Am Y sz) Y) (Am Y sz)) 0 0 (Am Y sz) := by
  refine Met.ofW (cc := cX12_mark) (maxL := 3) (ret := none) (by decide) rfl ?_
  intro p e s m args below meth c s₁ B hml hv
  obtain ⟨hargs, hsz, hW, hK, hC, hf⟩ := hv
  subst hsz
  have hx := B.exec
  have hb := B.bytes
  have hr := B.returns
  have hts : ∀ w ∈ TT, w.before args s = true := fun w h => atoms_spec (ws := Cond.code yX12_mark cX12_mark 3 none :: TT) B.pre w (List.mem_cons_of_mem _ h)
  have hown : s.vm.findClass RX12 = some m.cls := findClass_of_methodNamed B.named
  have hlocks := B.notSynchronized
  replace hW := Wd_self (sz := s.heap.size) hW
  generalize hAe : Am Y s.heap.size = A at hW hC ⊢
  have hA : ∀ q : Nat, s.heap.size ≤ q → A q := fun q h => by rw [← hAe]; exact Or.inr h
  clear hAe
  have hS : va_S A s.heap s.heap [] := va_S.rf
  obtain ⟨ls, hE, hl⟩ := gm_entry m [.ref v0] (n := 3) hargs (Nat.le_of_ble_eq_true rfl)
  rw [hE]
  have hl : lv_has ls 3 [(0, .ref v0)] := hl
  show W p l e rm_X12_mark s m args below meth c s.heap [] 0 0 (MQ below (va_Qv Kn (BG D cy A Y) A) args s 0 0 A) (F0 m 0 ls [])
  unfold f_X12_mark at hf
  refine lv_iconst (v := 0) hx hb dX12_mark_0 (by decide +kernel) ?_
  refine lv_istore_n (lv' := [(1, .int 0), (0, .ref v0)]) hx hb dX12_mark_1 rfl hl (by decide) rfl (fun ls hl => ?_)
  obtain ⟨n2, hf⟩ := hf
  have lp2 : ∀ (n2 : Nat) (x1 : Int32) (M2 : Mm) (H : Heap) (locs : List Loc) (ls : Array Slot), lv_has ls 3 [(0, .ref v0), (1, .int x1)] → Wd D cy A Y M2 H → va_S A s.heap H locs → LOOP2 (L_X12_mark_2 Y v0 Kn) n2 x1 M2 → W p l e rm_X12_mark s m args below meth c H locs 0 0 (MQ below (va_Qv Kn (BG D cy A Y) A) args s 0 0 A) (F0 m 2 ls []) := by
    intro n2
    induction n2 with
    | zero => intro x1 M2 H locs ls hl hW hS hf; exact hf.elim
    | succ n2 ih2 =>
      intro x1 M2 H locs ls hl hW hS hf
      replace hf : L_X12_mark_2 Y v0 Kn x1 M2 (LOOP2 (L_X12_mark_2 Y v0 Kn) n2) := hf
      unfold L_X12_mark_2 at hf
      refine lv_iload_n hx hb dX12_mark_2 rfl (lv_at hl 1 rfl) ?_
      refine lv_aload_n hx hb dX12_mark_3 rfl (lv_at hl 0 rfl) ?_
      obtain ⟨k3, hf⟩ := hf
      refine gm_getI (C := RX12) (T := TX12) (N := 68) (j := 3) hx hb hts inT_12 hown hK hW k3 (by decide) rfl (by decide) rfl (hts _ kw_1319) rfl dX12_mark_4 ?_
      refine lv_icmp_ge (tgt := 37) hx hb dX12_mark_7 (by decide) (fun c4 => ?_) (fun c4 => ?_)
      · replace hf := hf.1 c4
        refine lv_iconst (v := 0) hx hb dX12_mark_37 (by decide +kernel) ?_
        refine lv_istore_n (lv' := [(1, .int 0), (0, .ref v0)]) hx hb dX12_mark_38 rfl hl (by decide) rfl (fun ls hl => ?_)
        obtain ⟨n39, hf⟩ := hf
        have lp39 : ∀ (n39 : Nat) (x5 : Int32) (M6 : Mm) (H : Heap) (locs : List Loc) (ls : Array Slot), lv_has ls 3 [(0, .ref v0), (1, .int x5)] → Wd D cy A Y M6 H → va_S A s.heap H locs → LOOP2 (L_X12_mark_39 Y v0 Kn) n39 x5 M6 → W p l e rm_X12_mark s m args below meth c H locs 0 0 (MQ below (va_Qv Kn (BG D cy A Y) A) args s 0 0 A) (F0 m 39 ls []) := by
          intro n39
          induction n39 with
          | zero => intro x5 M6 H locs ls hl hW hS hf; exact hf.elim
          | succ n39 ih39 =>
            intro x5 M6 H locs ls hl hW hS hf
            replace hf : L_X12_mark_39 Y v0 Kn x5 M6 (LOOP2 (L_X12_mark_39 Y v0 Kn) n39) := hf
            unfold L_X12_mark_39 at hf
            refine lv_iload_n hx hb dX12_mark_39 rfl (lv_at hl 1 rfl) ?_
            refine lv_aload_n hx hb dX12_mark_40 rfl (lv_at hl 0 rfl) ?_
            refine gm_getI (C := RX12) (T := TX12) (N := 68) (j := 1) hx hb hts inT_12 hown hK hW k3 (by decide) rfl (by decide) rfl (hts _ kw_1317) rfl dX12_mark_41 ?_
            refine lv_icmp_gt (tgt := 86) hx hb dX12_mark_44 (by decide) (fun c7 => ?_) (fun c7 => ?_)
            · replace hf := hf.1 c7
              exact gm_vret hx hb hr hlocks hW hS hf dX12_mark_86
            · replace hf := hf.2 c7
              refine lv_iconst (v := 0) hx hb dX12_mark_47 (by decide +kernel) ?_
              refine lv_istore_n (lv' := [(2, .int 0), (0, .ref v0), (1, .int x5)]) hx hb dX12_mark_48 rfl hl (by decide) rfl (fun ls hl => ?_)
              obtain ⟨n49, hf⟩ := hf
              have lp49 : ∀ (n49 : Nat) (x8 : Int32) (M9 : Mm) (H : Heap) (locs : List Loc) (ls : Array Slot), lv_has ls 3 [(0, .ref v0), (1, .int x5), (2, .int x8)] → Wd D cy A Y M9 H → va_S A s.heap H locs → LOOP2 (L_X12_mark_49 Y v0 x5 (LOOP2 (L_X12_mark_39 Y v0 Kn) n39)) n49 x8 M9 → W p l e rm_X12_mark s m args below meth c H locs 0 0 (MQ below (va_Qv Kn (BG D cy A Y) A) args s 0 0 A) (F0 m 49 ls []) := by
                intro n49
                induction n49 with
                | zero => intro x8 M9 H locs ls hl hW hS hf; exact hf.elim
                | succ n49 ih49 =>
                  intro x8 M9 H locs ls hl hW hS hf
                  replace hf : L_X12_mark_49 Y v0 x5 (LOOP2 (L_X12_mark_39 Y v0 Kn) n39) x8 M9 (LOOP2 (L_X12_mark_49 Y v0 x5 (LOOP2 (L_X12_mark_39 Y v0 Kn) n39)) n49) := hf
                  unfold L_X12_mark_49 at hf
                  refine lv_iload_n hx hb dX12_mark_49 rfl (lv_at hl 2 rfl) ?_
                  refine lv_aload_n hx hb dX12_mark_50 rfl (lv_at hl 0 rfl) ?_
                  obtain ⟨b10, hb10, hf⟩ := hf
                  refine gm_getR (C := RX12) (T := TX12) (N := 68) (j := 28) hx hb hts inT_12 hown hK hW k3 (by decide) rfl (by decide) rfl (hts _ kw_1344) rfl dX12_mark_51 hb10 ?_
                  refine lv_iload_n hx hb dX12_mark_54 rfl (lv_at hl 1 rfl) ?_
                  obtain ⟨k11, hf⟩ := hf
                  obtain ⟨h12, hf⟩ := hf
                  refine gm_iald hx hb hK hW k11 h12 dX12_mark_55 ?_
                  refine lv_icmp_ge (tgt := 80) hx hb dX12_mark_56 (by decide) (fun c13 => ?_) (fun c13 => ?_)
                  · replace hf := hf.1 c13
                    obtain ⟨x14, ex14⟩ : ∃ y : Int32, y = x5 + 1 := ⟨_, rfl⟩
                    replace hf := hf x14 ex14
                    refine lv_iinc (v := x14) (lv' := [(1, .int x14), (0, .ref v0), (2, .int x8)]) hx hb dX12_mark_80 hl (k := 1) rfl (by rw [ex14]; rfl) (by decide) rfl (fun ls hl => ?_)
                    refine lv_goto (tgt := 39) hx hb dX12_mark_83 (by decide) ?_
                    exact ih39 _ _ _ _ _ (lv_sub hl [1, 0] rfl) hW hS hf
                  · replace hf := hf.2 c13
                    refine lv_aload_n hx hb dX12_mark_59 rfl (lv_at hl 0 rfl) ?_
                    refine lv_aload_n hx hb dX12_mark_60 rfl (lv_at hl 0 rfl) ?_
                    obtain ⟨b15, hb15, hf⟩ := hf
                    refine gm_getR (C := RX12) (T := TX12) (N := 68) (j := 29) hx hb hts inT_12 hown hK hW k3 (by decide) rfl (by decide) rfl (hts _ kw_1345) rfl dX12_mark_61 hb15 ?_
                    refine lv_bipush (v := 60) hx hb dX12_mark_64 (by decide +kernel) ?_
                    refine lv_iload_n hx hb dX12_mark_66 rfl (lv_at hl 1 rfl) ?_
                    refine lv_imul hx hb dX12_mark_67 ?_
                    refine lv_iload_n hx hb dX12_mark_68 rfl (lv_at hl 2 rfl) ?_
                    refine lv_iadd hx hb dX12_mark_69 ?_
                    obtain ⟨k16, hf⟩ := hf
                    obtain ⟨h17, hf⟩ := hf
                    refine gm_iald hx hb hK hW k16 h17 dX12_mark_70 ?_
                    refine gm_cv (va_runV (As := [.int (mI M9 b15 ((60 * x5) + x8).toNatClampNeg)]) (rest := []) ⟨hx, hb, hml, hown, hts⟩ (m_X12_hold l D cy tq _ Y _ _ _ _) (cwV 1 hts (good_V kw_1602 kw_1603 kw_1848 kw_12 kw_1604) rfl rfl rfl (by decide +kernel) ⟨Nat.le_of_ble_eq_true rfl, Nat.le_of_ble_eq_true rfl⟩) (gm_preV hK hW hC hS hA k3 (by decide) (q := (RX12, TX12, 68)) rfl rfl hf) rfl rfl hl.1 rfl (lv_room (Nat.le_of_ble_eq_true rfl)) dX12_mark_71 ⟨Nat.le_of_ble_eq_true rfl, Nat.le_of_ble_eq_true rfl⟩) hW hS hA (fun M18 H locs hW hS hf => ?_)
                    obtain ⟨x19, ex19⟩ : ∃ y : Int32, y = x8 + 1 := ⟨_, rfl⟩
                    replace hf := hf x19 ex19
                    refine lv_iinc (v := x19) (lv' := [(2, .int x19), (0, .ref v0), (1, .int x5)]) hx hb dX12_mark_74 hl (k := 2) rfl (by rw [ex19]; rfl) (by decide) rfl (fun ls hl => ?_)
                    refine lv_goto (tgt := 49) hx hb dX12_mark_77 (by decide) ?_
                    exact ih49 _ _ _ _ _ (lv_sub hl [1, 2, 0] rfl) hW hS hf
              exact lp49 n49 _ _ _ _ _ (lv_sub hl [1, 2, 0] rfl) hW hS hf
        exact lp39 n39 _ _ _ _ _ (lv_sub hl [1, 0] rfl) hW hS hf
      · replace hf := hf.2 c4
        refine lv_aload_n hx hb dX12_mark_10 rfl (lv_at hl 0 rfl) ?_
        obtain ⟨b20, hb20, hf⟩ := hf
        refine gm_getR (C := RX12) (T := TX12) (N := 68) (j := 31) hx hb hts inT_12 hown hK hW k3 (by decide) rfl (by decide) rfl (hts _ kw_1347) rfl dX12_mark_11 hb20 ?_
        refine lv_iload_n hx hb dX12_mark_14 rfl (lv_at hl 1 rfl) ?_
        refine lv_iload_n hx hb dX12_mark_15 rfl (lv_at hl 1 rfl) ?_
        refine lv_aload_n hx hb dX12_mark_16 rfl (lv_at hl 0 rfl) ?_
        refine gm_getI (C := RX12) (T := TX12) (N := 68) (j := 1) hx hb hts inT_12 hown hK hW k3 (by decide) rfl (by decide) rfl (hts _ kw_1317) rfl dX12_mark_17 ?_
        refine lv_iconst (v := 2) hx hb dX12_mark_20 (by decide +kernel) ?_
        refine lv_iadd hx hb dX12_mark_21 ?_
        have j30 : ∀ (y21 : Int32) (H : Heap) (locs : List Loc) (ls : Array Slot), lv_has ls 3 [(0, .ref v0), (1, .int x1)] → Wd D cy A Y M2 H → va_S A s.heap H locs → f_X12_mark_30 Y x1 M2 (LOOP2 (L_X12_mark_2 Y v0 Kn) n2) b20 y21 → W p l e rm_X12_mark s m args below meth c H locs 0 0 (MQ below (va_Qv Kn (BG D cy A Y) A) args s 0 0 A) (F0 m 30 ls [.int y21, .int x1, .ref b20]) := by
          intro y21 H locs ls hl hW hS hf
          unfold f_X12_mark_30 at hf
          obtain ⟨k22, hf⟩ := hf
          obtain ⟨h23, hf⟩ := hf
          obtain ⟨z24, hf⟩ := hf
          refine gm_zast hx hb hK hW hS k22 h23 (bz_v z24) dX12_mark_30 (fun H locs M25 eM25 hW hS => ?_)
          replace hf := hf M25 eM25
          obtain ⟨x26, ex26⟩ : ∃ y : Int32, y = x1 + 1 := ⟨_, rfl⟩
          replace hf := hf x26 ex26
          refine lv_iinc (v := x26) (lv' := [(1, .int x26), (0, .ref v0)]) hx hb dX12_mark_31 hl (k := 1) rfl (by rw [ex26]; rfl) (by decide) rfl (fun ls hl => ?_)
          refine lv_goto (tgt := 2) hx hb dX12_mark_34 (by decide) ?_
          exact ih2 _ _ _ _ _ (lv_sub hl [1, 0] rfl) hW hS hf
        refine lv_icmp_ge (tgt := 29) hx hb dX12_mark_22 (by decide) (fun c27 => ?_) (fun c27 => ?_)
        · replace hf := hf.1 c27
          refine lv_iconst (v := 0) hx hb dX12_mark_29 (by decide +kernel) ?_
          exact j30 _ _ _ _ (lv_sub hl [0, 1] rfl) hW hS hf
        · replace hf := hf.2 c27
          refine lv_iconst (v := 1) hx hb dX12_mark_25 (by decide +kernel) ?_
          refine lv_goto (tgt := 30) hx hb dX12_mark_26 (by decide) ?_
          exact j30 _ _ _ _ (lv_sub hl [0, 1] rfl) hW hS hf
  exact lp2 n2 _ _ _ _ _ (lv_sub hl [1, 0] rfl) hW hS hf

abbrev rm_X12_placeOf : Room := { frames := 2, cells := 0, slots := 0, locals := 80 }
def f_X12_placeOf_52 (Y : Ly) (x6 : Int32) (again24 : Int32 → Int32 → Prop) (y10 : Int32) : Prop :=
  ∀ x11 : Int32, x11 = x6 + 1 → (again24 y10 x11)
def f_X12_placeOf_51 (Y : Ly) (x6 : Int32) (again24 : Int32 → Int32 → Prop) : Prop :=
  f_X12_placeOf_52 Y x6 again24 0
def L_X12_placeOf_24 (Y : Ly) (v0 : Nat) (M : Mm) (Kn : Int32 → Mm → Prop) (x3 : Int32) (again7 : Int32 → Prop) (x5 : Int32) (x6 : Int32) (again24 : Int32 → Int32 → Prop) : Prop :=
  ((x3 + (mI M v0 2)) ≤ x6 → ((x5 = 0 → (∀ x9 : Int32, x9 = x3 + 1 → (again7 x9))) ∧ (¬ (x5 = 0) → (Kn x3 M)))) ∧ (¬ ((x3 + (mI M v0 2)) ≤ x6) → ((x5 = 0 → (f_X12_placeOf_51 Y x6 again24)) ∧ (¬ (x5 = 0) → (∃ b13 : Nat, mR M v0 31 = some b13 ∧ (yK Y b13 = 103 ∧ (vp_in x6 (yN Y b13) ∧ ((¬ (mI M b13 x6.toNatClampNeg) = 0 → (f_X12_placeOf_51 Y x6 again24)) ∧ ((mI M b13 x6.toNatClampNeg) = 0 → (f_X12_placeOf_52 Y x6 again24 1)))))))))
def L_X12_placeOf_7 (Y : Ly) (v0 : Nat) (M : Mm) (Kn : Int32 → Mm → Prop) (x3 : Int32) (again7 : Int32 → Prop) : Prop :=
  ((mI M v0 3) < (x3 + (mI M v0 2)) → (Kn (-1) M)) ∧ (¬ ((mI M v0 3) < (x3 + (mI M v0 2))) → (∃ n, LOOP2 (L_X12_placeOf_24 Y v0 M Kn x3 again7) n 1 x3))
def f_X12_placeOf (Y : Ly) (v0 : Nat) (M : Mm) (Kn : Int32 → Mm → Prop) : Prop :=
  yK Y v0 = 12 ∧ (∀ x2 : Int32, x2 = (mI M v0 1) + 2 → (∃ n, LOOP1 (L_X12_placeOf_7 Y v0 M Kn) n x2))
set_option maxHeartbeats 4000000 in
set_option maxRecDepth 100000 in
theorem m_X12_placeOf (l : Launch) (D : va_G) (cy : Cy) (tq sz : Nat) (Y : Ly) (v0 : Nat) (M : Mm) (Kn : Int32 → Mm → Prop) : Met l yX12_placeOf (Cond.code yX12_placeOf cX12_placeOf 4 (some .int) :: TT) rm_X12_placeOf (PcG D cy tq [.ref v0] sz Y M (f_X12_placeOf Y v0 M Kn)) (va_Qi Kn (BG D cy (Am Y sz) Y) (Am Y sz)) 0 0 (Am Y sz) := by
  refine Met.ofW (cc := cX12_placeOf) (maxL := 4) (ret := (some .int)) (by decide) rfl ?_
  intro p e s m args below meth c s₁ B hml hv
  obtain ⟨hargs, hsz, hW, hK, hC, hf⟩ := hv
  subst hsz
  have hx := B.exec
  have hb := B.bytes
  have hr := B.returns
  have hts : ∀ w ∈ TT, w.before args s = true := fun w h => atoms_spec (ws := Cond.code yX12_placeOf cX12_placeOf 4 (some .int) :: TT) B.pre w (List.mem_cons_of_mem _ h)
  have hown : s.vm.findClass RX12 = some m.cls := findClass_of_methodNamed B.named
  have hlocks := B.notSynchronized
  replace hW := Wd_self (sz := s.heap.size) hW
  generalize hAe : Am Y s.heap.size = A at hW hC ⊢
  have hA : ∀ q : Nat, s.heap.size ≤ q → A q := fun q h => by rw [← hAe]; exact Or.inr h
  clear hAe
  have hS : va_S A s.heap s.heap [] := va_S.rf
  obtain ⟨ls, hE, hl⟩ := gm_entry m [.ref v0] (n := 4) hargs (Nat.le_of_ble_eq_true rfl)
  rw [hE]
  have hl : lv_has ls 4 [(0, .ref v0)] := hl
  show W p l e rm_X12_placeOf s m args below meth c s.heap [] 0 0 (MQ below (va_Qi Kn (BG D cy A Y) A) args s 0 0 A) (F0 m 0 ls [])
  unfold f_X12_placeOf at hf
  refine lv_aload_n hx hb dX12_placeOf_0 rfl (lv_at hl 0 rfl) ?_
  obtain ⟨k1, hf⟩ := hf
  refine gm_getI (C := RX12) (T := TX12) (N := 68) (j := 1) hx hb hts inT_12 hown hK hW k1 (by decide) rfl (by decide) rfl (hts _ kw_1317) rfl dX12_placeOf_1 ?_
  refine lv_iconst (v := 2) hx hb dX12_placeOf_4 (by decide +kernel) ?_
  refine lv_iadd hx hb dX12_placeOf_5 ?_
  refine lv_topi (fun x2 ex2 => ?_)
  replace hf := hf x2 ex2
  refine lv_istore_n (lv' := [(1, .int x2), (0, .ref v0)]) hx hb dX12_placeOf_6 rfl hl (by decide) rfl (fun ls hl => ?_)
  obtain ⟨n7, hf⟩ := hf
  have lp7 : ∀ (n7 : Nat) (x3 : Int32) (H : Heap) (locs : List Loc) (ls : Array Slot), lv_has ls 4 [(0, .ref v0), (1, .int x3)] → Wd D cy A Y M H → va_S A s.heap H locs → LOOP1 (L_X12_placeOf_7 Y v0 M Kn) n7 x3 → W p l e rm_X12_placeOf s m args below meth c H locs 0 0 (MQ below (va_Qi Kn (BG D cy A Y) A) args s 0 0 A) (F0 m 7 ls []) := by
    intro n7
    induction n7 with
    | zero => intro x3 H locs ls hl hW hS hf; exact hf.elim
    | succ n7 ih7 =>
      intro x3 H locs ls hl hW hS hf
      replace hf : L_X12_placeOf_7 Y v0 M Kn x3 (LOOP1 (L_X12_placeOf_7 Y v0 M Kn) n7) := hf
      unfold L_X12_placeOf_7 at hf
      refine lv_iload_n hx hb dX12_placeOf_7 rfl (lv_at hl 1 rfl) ?_
      refine lv_aload_n hx hb dX12_placeOf_8 rfl (lv_at hl 0 rfl) ?_
      refine gm_getI (C := RX12) (T := TX12) (N := 68) (j := 2) hx hb hts inT_12 hown hK hW k1 (by decide) rfl (by decide) rfl (hts _ kw_1318) rfl dX12_placeOf_9 ?_
      refine lv_iadd hx hb dX12_placeOf_12 ?_
      refine lv_aload_n hx hb dX12_placeOf_13 rfl (lv_at hl 0 rfl) ?_
      refine gm_getI (C := RX12) (T := TX12) (N := 68) (j := 3) hx hb hts inT_12 hown hK hW k1 (by decide) rfl (by decide) rfl (hts _ kw_1319) rfl dX12_placeOf_14 ?_
      refine lv_icmp_gt (tgt := 71) hx hb dX12_placeOf_17 (by decide) (fun c4 => ?_) (fun c4 => ?_)
      · replace hf := hf.1 c4
        refine lv_iconst (v := -1) hx hb dX12_placeOf_71 (by decide +kernel) ?_
        exact gm_iret hx hb hr hlocks hW hS hf dX12_placeOf_72
      · replace hf := hf.2 c4
        refine lv_iconst (v := 1) hx hb dX12_placeOf_20 (by decide +kernel) ?_
        refine lv_istore_n (lv' := [(2, .int 1), (0, .ref v0), (1, .int x3)]) hx hb dX12_placeOf_21 rfl hl (by decide) rfl (fun ls hl => ?_)
        refine lv_iload_n hx hb dX12_placeOf_22 rfl (lv_at hl 2 rfl) ?_
        refine lv_istore_n (lv' := [(3, .int x3), (2, .int 1), (0, .ref v0), (1, .int x3)]) hx hb dX12_placeOf_23 rfl hl (by decide) rfl (fun ls hl => ?_)
        obtain ⟨n24, hf⟩ := hf
        have lp24 : ∀ (n24 : Nat) (x5 : Int32) (x6 : Int32) (H : Heap) (locs : List Loc) (ls : Array Slot), lv_has ls 4 [(0, .ref v0), (1, .int x3), (2, .int x5), (3, .int x6)] → Wd D cy A Y M H → va_S A s.heap H locs → LOOP2 (L_X12_placeOf_24 Y v0 M Kn x3 (LOOP1 (L_X12_placeOf_7 Y v0 M Kn) n7)) n24 x5 x6 → W p l e rm_X12_placeOf s m args below meth c H locs 0 0 (MQ below (va_Qi Kn (BG D cy A Y) A) args s 0 0 A) (F0 m 24 ls []) := by
          intro n24
          induction n24 with
          | zero => intro x5 x6 H locs ls hl hW hS hf; exact hf.elim
          | succ n24 ih24 =>
            intro x5 x6 H locs ls hl hW hS hf
            replace hf : L_X12_placeOf_24 Y v0 M Kn x3 (LOOP1 (L_X12_placeOf_7 Y v0 M Kn) n7) x5 x6 (LOOP2 (L_X12_placeOf_24 Y v0 M Kn x3 (LOOP1 (L_X12_placeOf_7 Y v0 M Kn) n7)) n24) := hf
            unfold L_X12_placeOf_24 at hf
            refine lv_iload_n hx hb dX12_placeOf_24 rfl (lv_at hl 3 rfl) ?_
            refine lv_iload_n hx hb dX12_placeOf_25 rfl (lv_at hl 1 rfl) ?_
            refine lv_aload_n hx hb dX12_placeOf_26 rfl (lv_at hl 0 rfl) ?_
            refine gm_getI (C := RX12) (T := TX12) (N := 68) (j := 2) hx hb hts inT_12 hown hK hW k1 (by decide) rfl (by decide) rfl (hts _ kw_1318) rfl dX12_placeOf_27 ?_
            refine lv_iadd hx hb dX12_placeOf_30 ?_
            refine lv_icmp_ge (tgt := 59) hx hb dX12_placeOf_31 (by decide) (fun c7 => ?_) (fun c7 => ?_)
            · replace hf := hf.1 c7
              refine lv_iload_n hx hb dX12_placeOf_59 rfl (lv_at hl 2 rfl) ?_
              refine lv_if_eq (tgt := 65) hx hb dX12_placeOf_60 (by decide) (fun c8 => ?_) (fun c8 => ?_)
              · replace hf := hf.1 c8
                obtain ⟨x9, ex9⟩ : ∃ y : Int32, y = x3 + 1 := ⟨_, rfl⟩
                replace hf := hf x9 ex9
                refine lv_iinc (v := x9) (lv' := [(1, .int x9), (0, .ref v0), (2, .int x5), (3, .int x6)]) hx hb dX12_placeOf_65 hl (k := 1) rfl (by rw [ex9]; rfl) (by decide) rfl (fun ls hl => ?_)
                refine lv_goto (tgt := 7) hx hb dX12_placeOf_68 (by decide) ?_
                exact ih7 _ _ _ _ (lv_sub hl [1, 0] rfl) hW hS hf
              · replace hf := hf.2 c8
                refine lv_iload_n hx hb dX12_placeOf_63 rfl (lv_at hl 1 rfl) ?_
                exact gm_iret hx hb hr hlocks hW hS hf dX12_placeOf_64
            · replace hf := hf.2 c7
              refine lv_iload_n hx hb dX12_placeOf_34 rfl (lv_at hl 2 rfl) ?_
              have j52 : ∀ (y10 : Int32) (H : Heap) (locs : List Loc) (ls : Array Slot), lv_has ls 4 [(0, .ref v0), (1, .int x3), (3, .int x6)] → Wd D cy A Y M H → va_S A s.heap H locs → f_X12_placeOf_52 Y x6 (LOOP2 (L_X12_placeOf_24 Y v0 M Kn x3 (LOOP1 (L_X12_placeOf_7 Y v0 M Kn) n7)) n24) y10 → W p l e rm_X12_placeOf s m args below meth c H locs 0 0 (MQ below (va_Qi Kn (BG D cy A Y) A) args s 0 0 A) (F0 m 52 ls [.int y10]) := by
                intro y10 H locs ls hl hW hS hf
                unfold f_X12_placeOf_52 at hf
                refine lv_istore_n (lv' := [(2, .int y10), (0, .ref v0), (1, .int x3), (3, .int x6)]) hx hb dX12_placeOf_52 rfl hl (by decide) rfl (fun ls hl => ?_)
                obtain ⟨x11, ex11⟩ : ∃ y : Int32, y = x6 + 1 := ⟨_, rfl⟩
                replace hf := hf x11 ex11
                refine lv_iinc (v := x11) (lv' := [(3, .int x11), (2, .int y10), (0, .ref v0), (1, .int x3)]) hx hb dX12_placeOf_53 hl (k := 3) rfl (by rw [ex11]; rfl) (by decide) rfl (fun ls hl => ?_)
                refine lv_goto (tgt := 24) hx hb dX12_placeOf_56 (by decide) ?_
                exact ih24 _ _ _ _ _ (lv_sub hl [2, 3, 1, 0] rfl) hW hS hf
              have j51 : ∀ (H : Heap) (locs : List Loc) (ls : Array Slot), lv_has ls 4 [(0, .ref v0), (1, .int x3), (3, .int x6)] → Wd D cy A Y M H → va_S A s.heap H locs → f_X12_placeOf_51 Y x6 (LOOP2 (L_X12_placeOf_24 Y v0 M Kn x3 (LOOP1 (L_X12_placeOf_7 Y v0 M Kn) n7)) n24)  → W p l e rm_X12_placeOf s m args below meth c H locs 0 0 (MQ below (va_Qi Kn (BG D cy A Y) A) args s 0 0 A) (F0 m 51 ls []) := by
                intro  H locs ls hl hW hS hf
                unfold f_X12_placeOf_51 at hf
                refine lv_iconst (v := 0) hx hb dX12_placeOf_51 (by decide +kernel) ?_
                exact j52 _ _ _ _ (lv_sub hl [0, 1, 2] rfl) hW hS hf
              refine lv_if_eq (tgt := 51) hx hb dX12_placeOf_35 (by decide) (fun c12 => ?_) (fun c12 => ?_)
              · replace hf := hf.1 c12
                exact j51  _ _ _ (lv_sub hl [0, 1, 3] rfl) hW hS hf
              · replace hf := hf.2 c12
                refine lv_aload_n hx hb dX12_placeOf_38 rfl (lv_at hl 0 rfl) ?_
                obtain ⟨b13, hb13, hf⟩ := hf
                refine gm_getR (C := RX12) (T := TX12) (N := 68) (j := 31) hx hb hts inT_12 hown hK hW k1 (by decide) rfl (by decide) rfl (hts _ kw_1347) rfl dX12_placeOf_39 hb13 ?_
                refine lv_iload_n hx hb dX12_placeOf_42 rfl (lv_at hl 3 rfl) ?_
                obtain ⟨k14, hf⟩ := hf
                obtain ⟨h15, hf⟩ := hf
                refine gm_zald hx hb hK hW k14 h15 dX12_placeOf_43 ?_
                refine lv_if_ne (tgt := 51) hx hb dX12_placeOf_44 (by decide) (fun c16 => ?_) (fun c16 => ?_)
                · replace hf := hf.1 c16
                  exact j51  _ _ _ (lv_sub hl [0, 1, 3] rfl) hW hS hf
                · replace hf := hf.2 c16
                  refine lv_iconst (v := 1) hx hb dX12_placeOf_47 (by decide +kernel) ?_
                  refine lv_goto (tgt := 52) hx hb dX12_placeOf_48 (by decide) ?_
                  exact j52 _ _ _ _ (lv_sub hl [0, 1, 3] rfl) hW hS hf
        exact lp24 n24 _ _ _ _ _ (lv_sub hl [2, 3, 1, 0] rfl) hW hS hf
  exact lp7 n7 _ _ _ _ (lv_sub hl [1, 0] rfl) hW hS hf

abbrev rm_X12_spend : Room := { frames := 2, cells := 0, slots := 0, locals := 80 }
def f_X12_spend_80 (Y : Ly) (Kn : Int32 → Mm → Prop) (M8 : Mm) (y9 : Int32) : Prop :=
  bz y9 ∧ Kn y9 M8
def f_X12_spend_61 (Y : Ly) (v0 : Nat) (v1 : Int32) (Kn : Int32 → Mm → Prop) (y2 : Int32) (y3 : Int32) (M4 : Mm) (y5 : Int32) : Prop :=
  ∀ M6 : Mm, M6 = sI M4 v0 (m1 (mI M4 v0) 7 ((mI M4 v0 7) - y5)) → (bz y2 ∧ (∀ M8 : Mm, M8 = sI M6 v0 (m1 (mI M6 v0) 5 y2) → ((¬ y3 = v1 → (f_X12_spend_80 Y Kn M8 0)) ∧ (y3 = v1 → (f_X12_spend_80 Y Kn M8 1)))))
def f_X12_spend_33 (Y : Ly) (v0 : Nat) (v1 : Int32) (M : Mm) (Kn : Int32 → Mm → Prop) (y2 : Int32) (y3 : Int32) : Prop :=
  ∀ M4 : Mm, M4 = sI M v0 (m1 (mI M v0) 6 ((mI M v0 6) + y3)) → ((0 ≤ (mI M4 v0 7) → (f_X12_spend_61 Y v0 v1 Kn y2 y3 M4 y3)) ∧ (¬ (0 ≤ (mI M4 v0 7)) → (f_X12_spend_61 Y v0 v1 Kn y2 y3 M4 0)))
def f_X12_spend_20 (Y : Ly) (v0 : Nat) (v1 : Int32) (M : Mm) (Kn : Int32 → Mm → Prop) (y2 : Int32) : Prop :=
  (y2 = 0 → (f_X12_spend_33 Y v0 v1 M Kn y2 v1)) ∧ (¬ (y2 = 0) → (f_X12_spend_33 Y v0 v1 M Kn y2 (mI M v0 7)))
def f_X12_spend_19 (Y : Ly) (v0 : Nat) (v1 : Int32) (M : Mm) (Kn : Int32 → Mm → Prop) : Prop :=
  f_X12_spend_20 Y v0 v1 M Kn 0
def f_X12_spend (Y : Ly) (v0 : Nat) (v1 : Int32) (M : Mm) (Kn : Int32 → Mm → Prop) : Prop :=
  yK Y v0 = 12 ∧ (((mI M v0 7) < 0 → (f_X12_spend_19 Y v0 v1 M Kn)) ∧ (¬ ((mI M v0 7) < 0) → ((v1 < (mI M v0 7) → (f_X12_spend_19 Y v0 v1 M Kn)) ∧ (¬ (v1 < (mI M v0 7)) → (f_X12_spend_20 Y v0 v1 M Kn 1)))))
set_option maxHeartbeats 4000000 in
set_option maxRecDepth 100000 in
theorem m_X12_spend (l : Launch) (D : va_G) (cy : Cy) (tq sz : Nat) (Y : Ly) (v0 : Nat) (v1 : Int32) (M : Mm) (Kn : Int32 → Mm → Prop) : Met l yX12_spend (Cond.code yX12_spend cX12_spend 4 (some .boolean) :: TT) rm_X12_spend (PcG D cy tq [.ref v0, .int v1] sz Y M (f_X12_spend Y v0 v1 M Kn)) (va_Qi Kn (BG D cy (Am Y sz) Y) (Am Y sz)) 0 0 (Am Y sz) := by
  refine Met.ofW (cc := cX12_spend) (maxL := 4) (ret := (some .boolean)) (by decide) rfl ?_
  intro p e s m args below meth c s₁ B hml hv
  obtain ⟨hargs, hsz, hW, hK, hC, hf⟩ := hv
  subst hsz
  have hx := B.exec
  have hb := B.bytes
  have hr := B.returns
  have hts : ∀ w ∈ TT, w.before args s = true := fun w h => atoms_spec (ws := Cond.code yX12_spend cX12_spend 4 (some .boolean) :: TT) B.pre w (List.mem_cons_of_mem _ h)
  have hown : s.vm.findClass RX12 = some m.cls := findClass_of_methodNamed B.named
  have hlocks := B.notSynchronized
  replace hW := Wd_self (sz := s.heap.size) hW
  generalize hAe : Am Y s.heap.size = A at hW hC ⊢
  have hA : ∀ q : Nat, s.heap.size ≤ q → A q := fun q h => by rw [← hAe]; exact Or.inr h
  clear hAe
  have hS : va_S A s.heap s.heap [] := va_S.rf
  obtain ⟨ls, hE, hl⟩ := gm_entry m [.ref v0, .int v1] (n := 4) hargs (Nat.le_of_ble_eq_true rfl)
  rw [hE]
  have hl : lv_has ls 4 [(0, .ref v0), (1, .int v1)] := hl
  show W p l e rm_X12_spend s m args below meth c s.heap [] 0 0 (MQ below (va_Qi Kn (BG D cy A Y) A) args s 0 0 A) (F0 m 0 ls [])
  unfold f_X12_spend at hf
  refine lv_aload_n hx hb dX12_spend_0 rfl (lv_at hl 0 rfl) ?_
  obtain ⟨k1, hf⟩ := hf
  refine gm_getI (C := RX12) (T := TX12) (N := 68) (j := 7) hx hb hts inT_12 hown hK hW k1 (by decide) rfl (by decide) rfl (hts _ kw_1323) rfl dX12_spend_1 ?_
  have j20 : ∀ (y2 : Int32) (H : Heap) (locs : List Loc) (ls : Array Slot), lv_has ls 4 [(0, .ref v0), (1, .int v1)] → Wd D cy A Y M H → va_S A s.heap H locs → f_X12_spend_20 Y v0 v1 M Kn y2 → W p l e rm_X12_spend s m args below meth c H locs 0 0 (MQ below (va_Qi Kn (BG D cy A Y) A) args s 0 0 A) (F0 m 20 ls [.int y2]) := by
    intro y2 H locs ls hl hW hS hf
    unfold f_X12_spend_20 at hf
    refine lv_istore_n (lv' := [(2, .int y2), (0, .ref v0), (1, .int v1)]) hx hb dX12_spend_20 rfl hl (by decide) rfl (fun ls hl => ?_)
    refine lv_iload_n hx hb dX12_spend_21 rfl (lv_at hl 0 rfl) ?_
    have j33 : ∀ (y3 : Int32) (H : Heap) (locs : List Loc) (ls : Array Slot), lv_has ls 4 [(0, .ref v0), (1, .int v1), (2, .int y2)] → Wd D cy A Y M H → va_S A s.heap H locs → f_X12_spend_33 Y v0 v1 M Kn y2 y3 → W p l e rm_X12_spend s m args below meth c H locs 0 0 (MQ below (va_Qi Kn (BG D cy A Y) A) args s 0 0 A) (F0 m 33 ls [.int y3]) := by
      intro y3 H locs ls hl hW hS hf
      unfold f_X12_spend_33 at hf
      refine lv_istore_n (lv' := [(3, .int y3), (0, .ref v0), (1, .int v1), (2, .int y2)]) hx hb dX12_spend_33 rfl hl (by decide) rfl (fun ls hl => ?_)
      refine lv_aload_n hx hb dX12_spend_34 rfl (lv_at hl 1 rfl) ?_
      refine lv_dup hx hb dX12_spend_35 rfl ?_
      refine gm_getI (C := RX12) (T := TX12) (N := 68) (j := 6) hx hb hts inT_12 hown hK hW k1 (by decide) rfl (by decide) rfl (hts _ kw_1322) rfl dX12_spend_36 ?_
      refine lv_iload_n hx hb dX12_spend_39 rfl (lv_at hl 0 rfl) ?_
      refine lv_iadd hx hb dX12_spend_40 ?_
      refine gm_putI (C := RX12) (T := TX12) (N := 68) (j := 6) hx hb hts inT_12 tyX12 tyX12_ok nmX12 hown hK hW hS k1 (by decide) rfl (by decide) rfl (hts _ kw_1322) rfl rfl rfl rfl dX12_spend_41 (fun H locs M4 eM4 hW hS => ?_)
      replace hf := hf M4 eM4
      refine lv_aload_n hx hb dX12_spend_44 rfl (lv_at hl 1 rfl) ?_
      refine lv_dup hx hb dX12_spend_45 rfl ?_
      refine gm_getI (C := RX12) (T := TX12) (N := 68) (j := 7) hx hb hts inT_12 hown hK hW k1 (by decide) rfl (by decide) rfl (hts _ kw_1323) rfl dX12_spend_46 ?_
      refine lv_aload_n hx hb dX12_spend_49 rfl (lv_at hl 1 rfl) ?_
      refine gm_getI (C := RX12) (T := TX12) (N := 68) (j := 7) hx hb hts inT_12 hown hK hW k1 (by decide) rfl (by decide) rfl (hts _ kw_1323) rfl dX12_spend_50 ?_
      have j61 : ∀ (y5 : Int32) (H : Heap) (locs : List Loc) (ls : Array Slot), lv_has ls 4 [(0, .ref v0), (1, .int v1), (2, .int y2), (3, .int y3)] → Wd D cy A Y M4 H → va_S A s.heap H locs → f_X12_spend_61 Y v0 v1 Kn y2 y3 M4 y5 → W p l e rm_X12_spend s m args below meth c H locs 0 0 (MQ below (va_Qi Kn (BG D cy A Y) A) args s 0 0 A) (F0 m 61 ls [.int y5, .int (mI M4 v0 7), .ref v0]) := by
        intro y5 H locs ls hl hW hS hf
        unfold f_X12_spend_61 at hf
        refine lv_isub hx hb dX12_spend_61 ?_
        refine gm_putI (C := RX12) (T := TX12) (N := 68) (j := 7) hx hb hts inT_12 tyX12 tyX12_ok nmX12 hown hK hW hS k1 (by decide) rfl (by decide) rfl (hts _ kw_1323) rfl rfl rfl rfl dX12_spend_62 (fun H locs M6 eM6 hW hS => ?_)
        replace hf := hf M6 eM6
        refine lv_aload_n hx hb dX12_spend_65 rfl (lv_at hl 0 rfl) ?_
        refine lv_iload_n hx hb dX12_spend_66 rfl (lv_at hl 2 rfl) ?_
        obtain ⟨z7, hf⟩ := hf
        refine gm_putI (C := RX12) (T := TX12) (N := 68) (j := 5) hx hb hts inT_12 tyX12 tyX12_ok nmX12 hown hK hW hS k1 (by decide) rfl (by decide) rfl (hts _ kw_1321) rfl rfl (bz_n z7) (bz_f z7) dX12_spend_67 (fun H locs M8 eM8 hW hS => ?_)
        replace hf := hf M8 eM8
        refine lv_iload_n hx hb dX12_spend_70 rfl (lv_at hl 3 rfl) ?_
        refine lv_iload_n hx hb dX12_spend_71 rfl (lv_at hl 1 rfl) ?_
        have j80 : ∀ (y9 : Int32) (H : Heap) (locs : List Loc) (ls : Array Slot), lv_has ls 4 [] → Wd D cy A Y M8 H → va_S A s.heap H locs → f_X12_spend_80 Y Kn M8 y9 → W p l e rm_X12_spend s m args below meth c H locs 0 0 (MQ below (va_Qi Kn (BG D cy A Y) A) args s 0 0 A) (F0 m 80 ls [.int y9]) := by
          intro y9 H locs ls hl hW hS hf
          unfold f_X12_spend_80 at hf
          exact gm_zret hx hb hr hlocks hW hS hf.1 hf.2 dX12_spend_80
        refine lv_icmp_ne (tgt := 79) hx hb dX12_spend_72 (by decide) (fun c10 => ?_) (fun c10 => ?_)
        · replace hf := hf.1 c10
          refine lv_iconst (v := 0) hx hb dX12_spend_79 (by decide +kernel) ?_
          exact j80 _ _ _ _ (lv_sub hl [] rfl) hW hS hf
        · replace hf := hf.2 c10
          refine lv_iconst (v := 1) hx hb dX12_spend_75 (by decide +kernel) ?_
          refine lv_goto (tgt := 80) hx hb dX12_spend_76 (by decide) ?_
          exact j80 _ _ _ _ (lv_sub hl [] rfl) hW hS hf
      refine lv_if_ge (tgt := 60) hx hb dX12_spend_53 (by decide) (fun c11 => ?_) (fun c11 => ?_)
      · replace hf := hf.1 c11
        refine lv_iload_n hx hb dX12_spend_60 rfl (lv_at hl 0 rfl) ?_
        exact j61 _ _ _ _ (lv_sub hl [1, 2, 3, 0] rfl) hW hS hf
      · replace hf := hf.2 c11
        refine lv_iconst (v := 0) hx hb dX12_spend_56 (by decide +kernel) ?_
        refine lv_goto (tgt := 61) hx hb dX12_spend_57 (by decide) ?_
        exact j61 _ _ _ _ (lv_sub hl [1, 2, 3, 0] rfl) hW hS hf
    refine lv_if_eq (tgt := 32) hx hb dX12_spend_22 (by decide) (fun c12 => ?_) (fun c12 => ?_)
    · replace hf := hf.1 c12
      refine lv_iload_n hx hb dX12_spend_32 rfl (lv_at hl 2 rfl) ?_
      exact j33 _ _ _ _ (lv_sub hl [1, 2, 0] rfl) hW hS hf
    · replace hf := hf.2 c12
      refine lv_aload_n hx hb dX12_spend_25 rfl (lv_at hl 1 rfl) ?_
      refine gm_getI (C := RX12) (T := TX12) (N := 68) (j := 7) hx hb hts inT_12 hown hK hW k1 (by decide) rfl (by decide) rfl (hts _ kw_1323) rfl dX12_spend_26 ?_
      refine lv_goto (tgt := 33) hx hb dX12_spend_29 (by decide) ?_
      exact j33 _ _ _ _ (lv_sub hl [1, 2, 0] rfl) hW hS hf
  have j19 : ∀ (H : Heap) (locs : List Loc) (ls : Array Slot), lv_has ls 4 [(0, .ref v0), (1, .int v1)] → Wd D cy A Y M H → va_S A s.heap H locs → f_X12_spend_19 Y v0 v1 M Kn  → W p l e rm_X12_spend s m args below meth c H locs 0 0 (MQ below (va_Qi Kn (BG D cy A Y) A) args s 0 0 A) (F0 m 19 ls []) := by
    intro  H locs ls hl hW hS hf
    unfold f_X12_spend_19 at hf
    refine lv_iconst (v := 0) hx hb dX12_spend_19 (by decide +kernel) ?_
    exact j20 _ _ _ _ (lv_sub hl [0, 1] rfl) hW hS hf
  refine lv_if_lt (tgt := 19) hx hb dX12_spend_4 (by decide) (fun c13 => ?_) (fun c13 => ?_)
  · replace hf := hf.1 c13
    exact j19  _ _ _ (lv_sub hl [0, 1] rfl) hW hS hf
  · replace hf := hf.2 c13
    refine lv_aload_n hx hb dX12_spend_7 rfl (lv_at hl 0 rfl) ?_
    refine gm_getI (C := RX12) (T := TX12) (N := 68) (j := 7) hx hb hts inT_12 hown hK hW k1 (by decide) rfl (by decide) rfl (hts _ kw_1323) rfl dX12_spend_8 ?_
    refine lv_iload_n hx hb dX12_spend_11 rfl (lv_at hl 1 rfl) ?_
    refine lv_icmp_gt (tgt := 19) hx hb dX12_spend_12 (by decide) (fun c14 => ?_) (fun c14 => ?_)
    · replace hf := hf.1 c14
      exact j19  _ _ _ (lv_sub hl [0, 1] rfl) hW hS hf
    · replace hf := hf.2 c14
      refine lv_iconst (v := 1) hx hb dX12_spend_15 (by decide +kernel) ?_
      refine lv_goto (tgt := 20) hx hb dX12_spend_16 (by decide) ?_
      exact j20 _ _ _ _ (lv_sub hl [0, 1] rfl) hW hS hf

abbrev rm_X12_touched : Room := { frames := 2, cells := 0, slots := 0, locals := 80 }
def f_X12_touched_25 (Y : Ly) (M : Mm) (Kn : Int32 → Mm → Prop) (y1 : Int32) : Prop :=
  Kn y1 M
def f_X12_touched (Y : Ly) (v0 : Int32) (v1 : Int32) (M : Mm) (Kn : Int32 → Mm → Prop) : Prop :=
  (¬ v1 = 0 → (f_X12_touched_25 Y M Kn (((((v0 + v1) - 1) / 1024) - (v0 / 1024)) + 1))) ∧ (v1 = 0 → (f_X12_touched_25 Y M Kn 0))
set_option maxHeartbeats 4000000 in
set_option maxRecDepth 100000 in
theorem m_X12_touched (l : Launch) (D : va_G) (cy : Cy) (tq sz : Nat) (Y : Ly) (v0 : Int32) (v1 : Int32) (M : Mm) (Kn : Int32 → Mm → Prop) : Met l yX12_touched (Cond.code yX12_touched cX12_touched 2 (some .int) :: TT) rm_X12_touched (PcG D cy tq [.int v0, .int v1] sz Y M (f_X12_touched Y v0 v1 M Kn)) (va_Qi Kn (BG D cy (Am Y sz) Y) (Am Y sz)) 0 0 (Am Y sz) := by
  refine Met.ofW (cc := cX12_touched) (maxL := 2) (ret := (some .int)) (by decide) rfl ?_
  intro p e s m args below meth c s₁ B hml hv
  obtain ⟨hargs, hsz, hW, hK, hC, hf⟩ := hv
  subst hsz
  have hx := B.exec
  have hb := B.bytes
  have hr := B.returns
  have hts : ∀ w ∈ TT, w.before args s = true := fun w h => atoms_spec (ws := Cond.code yX12_touched cX12_touched 2 (some .int) :: TT) B.pre w (List.mem_cons_of_mem _ h)
  have hown : s.vm.findClass RX12 = some m.cls := findClass_of_methodNamed B.named
  have hlocks := B.notSynchronized
  replace hW := Wd_self (sz := s.heap.size) hW
  generalize hAe : Am Y s.heap.size = A at hW hC ⊢
  have hA : ∀ q : Nat, s.heap.size ≤ q → A q := fun q h => by rw [← hAe]; exact Or.inr h
  clear hAe
  have hS : va_S A s.heap s.heap [] := va_S.rf
  obtain ⟨ls, hE, hl⟩ := gm_entry m [.int v0, .int v1] (n := 2) hargs (Nat.le_of_ble_eq_true rfl)
  rw [hE]
  have hl : lv_has ls 2 [(0, .int v0), (1, .int v1)] := hl
  show W p l e rm_X12_touched s m args below meth c s.heap [] 0 0 (MQ below (va_Qi Kn (BG D cy A Y) A) args s 0 0 A) (F0 m 0 ls [])
  unfold f_X12_touched at hf
  refine lv_iload_n hx hb dX12_touched_0 rfl (lv_at hl 1 rfl) ?_
  have j25 : ∀ (y1 : Int32) (H : Heap) (locs : List Loc) (ls : Array Slot), lv_has ls 2 [] → Wd D cy A Y M H → va_S A s.heap H locs → f_X12_touched_25 Y M Kn y1 → W p l e rm_X12_touched s m args below meth c H locs 0 0 (MQ below (va_Qi Kn (BG D cy A Y) A) args s 0 0 A) (F0 m 25 ls [.int y1]) := by
    intro y1 H locs ls hl hW hS hf
    unfold f_X12_touched_25 at hf
    exact gm_iret hx hb hr hlocks hW hS hf dX12_touched_25
  refine lv_if_ne (tgt := 8) hx hb dX12_touched_1 (by decide) (fun c2 => ?_) (fun c2 => ?_)
  · replace hf := hf.1 c2
    refine lv_iload_n hx hb dX12_touched_8 rfl (lv_at hl 0 rfl) ?_
    refine lv_iload_n hx hb dX12_touched_9 rfl (lv_at hl 1 rfl) ?_
    refine lv_iadd hx hb dX12_touched_10 ?_
    refine lv_iconst (v := 1) hx hb dX12_touched_11 (by decide +kernel) ?_
    refine lv_isub hx hb dX12_touched_12 ?_
    refine lv_sipush (v := 1024) hx hb dX12_touched_13 (by decide +kernel) ?_
    refine lv_idiv hx hb dX12_touched_16 (by decide) ?_
    refine lv_iload_n hx hb dX12_touched_17 rfl (lv_at hl 0 rfl) ?_
    refine lv_sipush (v := 1024) hx hb dX12_touched_18 (by decide +kernel) ?_
    refine lv_idiv hx hb dX12_touched_21 (by decide) ?_
    refine lv_isub hx hb dX12_touched_22 ?_
    refine lv_iconst (v := 1) hx hb dX12_touched_23 (by decide +kernel) ?_
    refine lv_iadd hx hb dX12_touched_24 ?_
    exact j25 _ _ _ _ (lv_sub hl [] rfl) hW hS hf
  · replace hf := hf.2 c2
    refine lv_iconst (v := 0) hx hb dX12_touched_4 (by decide +kernel) ?_
    refine lv_goto (tgt := 25) hx hb dX12_touched_5 (by decide) ?_
    exact j25 _ _ _ _ (lv_sub hl [] rfl) hW hS hf

abbrev rm_X12_tidy : Room := { frames := 2, cells := 0, slots := 0, locals := 80 }
def L_X12_tidy_14 (Y : Ly) (v0 : Nat) (x1 : Int32) (x2 : Int32) (again4 : Int32 → Int32 → Mm → Prop) (x11 : Int32) (M12 : Mm) (again14 : Int32 → Mm → Prop) : Prop :=
  ∃ b13 : Nat, mR M12 v0 21 = some b13 ∧ (yK Y b13 = 101 ∧ (vp_in x2 (yN Y b13) ∧ (((mI M12 b13 x2.toNatClampNeg) ≤ x11 → (∃ b17 : Nat, mR M12 v0 20 = some b17 ∧ (yK Y b17 = 101 ∧ (vp_in x2 (yN Y b17) ∧ (∀ M20 : Mm, M20 = sI M12 b17 (m1 (mI M12 b17) x2.toNatClampNeg x1) → (∃ b21 : Nat, mR M20 v0 21 = some b21 ∧ (yK Y b21 = 101 ∧ (vp_in x2 (yN Y b21) ∧ (∀ x24 : Int32, x24 = x1 + (mI M20 b21 x2.toNatClampNeg) → (∀ x25 : Int32, x25 = x2 + 1 → (again4 x24 x25 M20))))))))))) ∧ (¬ ((mI M12 b13 x2.toNatClampNeg) ≤ x11) → (∃ b26 : Nat, mR M12 v0 24 = some b26 ∧ (∃ b27 : Nat, mR M12 v0 23 = some b27 ∧ (∃ b28 : Nat, mR M12 v0 20 = some b28 ∧ (yK Y b28 = 101 ∧ (vp_in x2 (yN Y b28) ∧ (yK Y b27 = 101 ∧ (vp_in ((mI M12 b28 x2.toNatClampNeg) + x11) (yN Y b27) ∧ (yK Y b26 = 101 ∧ (vp_in (x1 + x11) (yN Y b26) ∧ (∀ M35 : Mm, M35 = sI M12 b26 (m1 (mI M12 b26) (x1 + x11).toNatClampNeg (mI M12 b27 ((mI M12 b28 x2.toNatClampNeg) + x11).toNatClampNeg)) → (∀ x36 : Int32, x36 = x11 + 1 → (again14 x36 M35))))))))))))))))
def L_X12_tidy_4 (Y : Ly) (v0 : Nat) (Kn : Mm → Prop) (x1 : Int32) (x2 : Int32) (M3 : Mm) (again4 : Int32 → Int32 → Mm → Prop) : Prop :=
  yK Y v0 = 12 ∧ (((mI M3 v0 18) ≤ x2 → (∃ b6 : Nat, mR M3 v0 23 = some b6 ∧ (∃ b7 : Nat, mR M3 v0 24 = some b7 ∧ (∀ M8 : Mm, M8 = sR M3 v0 (m1 (mR M3 v0) 23 (some b7)) → (∀ M9 : Mm, M9 = sR M8 v0 (m1 (mR M8 v0) 24 (some b6)) → (∀ M10 : Mm, M10 = sI M9 v0 (m1 (mI M9 v0) 25 x1) → (Kn M10))))))) ∧ (¬ ((mI M3 v0 18) ≤ x2) → (∃ n, LOOP2 (L_X12_tidy_14 Y v0 x1 x2 again4) n 0 M3)))
def f_X12_tidy (Y : Ly) (v0 : Nat) (M : Mm) (Kn : Mm → Prop) : Prop :=
  ∃ n, LOOP3 (L_X12_tidy_4 Y v0 Kn) n 0 0 M
set_option maxHeartbeats 4000000 in
set_option maxRecDepth 100000 in
theorem m_X12_tidy (l : Launch) (D : va_G) (cy : Cy) (tq sz : Nat) (Y : Ly) (v0 : Nat) (M : Mm) (Kn : Mm → Prop) : Met l yX12_tidy (Cond.code yX12_tidy cX12_tidy 4 none :: TT) rm_X12_tidy (PcG D cy tq [.ref v0] sz Y M (f_X12_tidy Y v0 M Kn)) (va_Qv Kn (BG D cy (Am Y sz) Y) (Am Y sz)) 0 0 (Am Y sz) := by
  refine Met.ofW (cc := cX12_tidy) (maxL := 4) (ret := none) (by decide) rfl ?_
  intro p e s m args below meth c s₁ B hml hv
  obtain ⟨hargs, hsz, hW, hK, hC, hf⟩ := hv
  subst hsz
  have hx := B.exec
  have hb := B.bytes
  have hr := B.returns
  have hts : ∀ w ∈ TT, w.before args s = true := fun w h => atoms_spec (ws := Cond.code yX12_tidy cX12_tidy 4 none :: TT) B.pre w (List.mem_cons_of_mem _ h)
  have hown : s.vm.findClass RX12 = some m.cls := findClass_of_methodNamed B.named
  have hlocks := B.notSynchronized
  replace hW := Wd_self (sz := s.heap.size) hW
  generalize hAe : Am Y s.heap.size = A at hW hC ⊢
  have hA : ∀ q : Nat, s.heap.size ≤ q → A q := fun q h => by rw [← hAe]; exact Or.inr h
  clear hAe
  have hS : va_S A s.heap s.heap [] := va_S.rf
  obtain ⟨ls, hE, hl⟩ := gm_entry m [.ref v0] (n := 4) hargs (Nat.le_of_ble_eq_true rfl)
  rw [hE]
  have hl : lv_has ls 4 [(0, .ref v0)] := hl
  show W p l e rm_X12_tidy s m args below meth c s.heap [] 0 0 (MQ below (va_Qv Kn (BG D cy A Y) A) args s 0 0 A) (F0 m 0 ls [])
  unfold f_X12_tidy at hf
  refine lv_iconst (v := 0) hx hb dX12_tidy_0 (by decide +kernel) ?_
  refine lv_istore_n (lv' := [(1, .int 0), (0, .ref v0)]) hx hb dX12_tidy_1 rfl hl (by decide) rfl (fun ls hl => ?_)
  refine lv_iconst (v := 0) hx hb dX12_tidy_2 (by decide +kernel) ?_
  refine lv_istore_n (lv' := [(2, .int 0), (1, .int 0), (0, .ref v0)]) hx hb dX12_tidy_3 rfl hl (by decide) rfl (fun ls hl => ?_)
  obtain ⟨n4, hf⟩ := hf
  have lp4 : ∀ (n4 : Nat) (x1 : Int32) (x2 : Int32) (M3 : Mm) (H : Heap) (locs : List Loc) (ls : Array Slot), lv_has ls 4 [(0, .ref v0), (1, .int x1), (2, .int x2)] → Wd D cy A Y M3 H → va_S A s.heap H locs → LOOP3 (L_X12_tidy_4 Y v0 Kn) n4 x1 x2 M3 → W p l e rm_X12_tidy s m args below meth c H locs 0 0 (MQ below (va_Qv Kn (BG D cy A Y) A) args s 0 0 A) (F0 m 4 ls []) := by
    intro n4
    induction n4 with
    | zero => intro x1 x2 M3 H locs ls hl hW hS hf; exact hf.elim
    | succ n4 ih4 =>
      intro x1 x2 M3 H locs ls hl hW hS hf
      replace hf : L_X12_tidy_4 Y v0 Kn x1 x2 M3 (LOOP3 (L_X12_tidy_4 Y v0 Kn) n4) := hf
      unfold L_X12_tidy_4 at hf
      refine lv_iload_n hx hb dX12_tidy_4 rfl (lv_at hl 2 rfl) ?_
      refine lv_aload_n hx hb dX12_tidy_5 rfl (lv_at hl 0 rfl) ?_
      obtain ⟨k4, hf⟩ := hf
      refine gm_getI (C := RX12) (T := TX12) (N := 68) (j := 18) hx hb hts inT_12 hown hK hW k4 (by decide) rfl (by decide) rfl (hts _ kw_1334) rfl dX12_tidy_6 ?_
      refine lv_icmp_ge (tgt := 73) hx hb dX12_tidy_9 (by decide) (fun c5 => ?_) (fun c5 => ?_)
      · replace hf := hf.1 c5
        refine lv_aload_n hx hb dX12_tidy_73 rfl (lv_at hl 0 rfl) ?_
        obtain ⟨b6, hb6, hf⟩ := hf
        refine gm_getR (C := RX12) (T := TX12) (N := 68) (j := 23) hx hb hts inT_12 hown hK hW k4 (by decide) rfl (by decide) rfl (hts _ kw_1339) rfl dX12_tidy_74 hb6 ?_
        refine lv_astore_n (lv' := [(2, .ref b6), (0, .ref v0), (1, .int x1)]) hx hb dX12_tidy_77 rfl hl (by decide) rfl (fun ls hl => ?_)
        refine lv_aload_n hx hb dX12_tidy_78 rfl (lv_at hl 1 rfl) ?_
        refine lv_aload_n hx hb dX12_tidy_79 rfl (lv_at hl 1 rfl) ?_
        obtain ⟨b7, hb7, hf⟩ := hf
        refine gm_getR (C := RX12) (T := TX12) (N := 68) (j := 24) hx hb hts inT_12 hown hK hW k4 (by decide) rfl (by decide) rfl (hts _ kw_1340) rfl dX12_tidy_80 hb7 ?_
        refine gm_putR (C := RX12) (T := TX12) (N := 68) (j := 23) hx hb hts inT_12 tyX12 tyX12_ok nmX12 hown hK hW hS k4 (by decide) rfl (by decide) rfl (hts _ kw_1339) rfl rfl rfl rfl dX12_tidy_83 (fun H locs M8 eM8 hW hS => ?_)
        replace hf := hf M8 eM8
        refine lv_aload_n hx hb dX12_tidy_86 rfl (lv_at hl 1 rfl) ?_
        refine lv_aload_n hx hb dX12_tidy_87 rfl (lv_at hl 0 rfl) ?_
        refine gm_putR (C := RX12) (T := TX12) (N := 68) (j := 24) hx hb hts inT_12 tyX12 tyX12_ok nmX12 hown hK hW hS k4 (by decide) rfl (by decide) rfl (hts _ kw_1340) rfl rfl rfl rfl dX12_tidy_88 (fun H locs M9 eM9 hW hS => ?_)
        replace hf := hf M9 eM9
        refine lv_aload_n hx hb dX12_tidy_91 rfl (lv_at hl 1 rfl) ?_
        refine lv_iload_n hx hb dX12_tidy_92 rfl (lv_at hl 2 rfl) ?_
        refine gm_putI (C := RX12) (T := TX12) (N := 68) (j := 25) hx hb hts inT_12 tyX12 tyX12_ok nmX12 hown hK hW hS k4 (by decide) rfl (by decide) rfl (hts _ kw_1341) rfl rfl rfl rfl dX12_tidy_93 (fun H locs M10 eM10 hW hS => ?_)
        replace hf := hf M10 eM10
        exact gm_vret hx hb hr hlocks hW hS hf dX12_tidy_96
      · replace hf := hf.2 c5
        refine lv_iconst (v := 0) hx hb dX12_tidy_12 (by decide +kernel) ?_
        refine lv_istore_n (lv' := [(3, .int 0), (0, .ref v0), (1, .int x1), (2, .int x2)]) hx hb dX12_tidy_13 rfl hl (by decide) rfl (fun ls hl => ?_)
        obtain ⟨n14, hf⟩ := hf
        have lp14 : ∀ (n14 : Nat) (x11 : Int32) (M12 : Mm) (H : Heap) (locs : List Loc) (ls : Array Slot), lv_has ls 4 [(0, .ref v0), (1, .int x1), (2, .int x2), (3, .int x11)] → Wd D cy A Y M12 H → va_S A s.heap H locs → LOOP2 (L_X12_tidy_14 Y v0 x1 x2 (LOOP3 (L_X12_tidy_4 Y v0 Kn) n4)) n14 x11 M12 → W p l e rm_X12_tidy s m args below meth c H locs 0 0 (MQ below (va_Qv Kn (BG D cy A Y) A) args s 0 0 A) (F0 m 14 ls []) := by
          intro n14
          induction n14 with
          | zero => intro x11 M12 H locs ls hl hW hS hf; exact hf.elim
          | succ n14 ih14 =>
            intro x11 M12 H locs ls hl hW hS hf
            replace hf : L_X12_tidy_14 Y v0 x1 x2 (LOOP3 (L_X12_tidy_4 Y v0 Kn) n4) x11 M12 (LOOP2 (L_X12_tidy_14 Y v0 x1 x2 (LOOP3 (L_X12_tidy_4 Y v0 Kn) n4)) n14) := hf
            unfold L_X12_tidy_14 at hf
            refine lv_iload_n hx hb dX12_tidy_14 rfl (lv_at hl 3 rfl) ?_
            refine lv_aload_n hx hb dX12_tidy_15 rfl (lv_at hl 0 rfl) ?_
            obtain ⟨b13, hb13, hf⟩ := hf
            refine gm_getR (C := RX12) (T := TX12) (N := 68) (j := 21) hx hb hts inT_12 hown hK hW k4 (by decide) rfl (by decide) rfl (hts _ kw_1337) rfl dX12_tidy_16 hb13 ?_
            refine lv_iload_n hx hb dX12_tidy_19 rfl (lv_at hl 2 rfl) ?_
            obtain ⟨k14, hf⟩ := hf
            obtain ⟨h15, hf⟩ := hf
            refine gm_iald hx hb hK hW k14 h15 dX12_tidy_20 ?_
            refine lv_icmp_ge (tgt := 51) hx hb dX12_tidy_21 (by decide) (fun c16 => ?_) (fun c16 => ?_)
            · replace hf := hf.1 c16
              refine lv_aload_n hx hb dX12_tidy_51 rfl (lv_at hl 0 rfl) ?_
              obtain ⟨b17, hb17, hf⟩ := hf
              refine gm_getR (C := RX12) (T := TX12) (N := 68) (j := 20) hx hb hts inT_12 hown hK hW k4 (by decide) rfl (by decide) rfl (hts _ kw_1336) rfl dX12_tidy_52 hb17 ?_
              refine lv_iload_n hx hb dX12_tidy_55 rfl (lv_at hl 2 rfl) ?_
              refine lv_iload_n hx hb dX12_tidy_56 rfl (lv_at hl 1 rfl) ?_
              obtain ⟨k18, hf⟩ := hf
              obtain ⟨h19, hf⟩ := hf
              refine gm_iast hx hb hK hW hS k18 h19 dX12_tidy_57 (fun H locs M20 eM20 hW hS => ?_)
              replace hf := hf M20 eM20
              refine lv_iload_n hx hb dX12_tidy_58 rfl (lv_at hl 1 rfl) ?_
              refine lv_aload_n hx hb dX12_tidy_59 rfl (lv_at hl 0 rfl) ?_
              obtain ⟨b21, hb21, hf⟩ := hf
              refine gm_getR (C := RX12) (T := TX12) (N := 68) (j := 21) hx hb hts inT_12 hown hK hW k4 (by decide) rfl (by decide) rfl (hts _ kw_1337) rfl dX12_tidy_60 hb21 ?_
              refine lv_iload_n hx hb dX12_tidy_63 rfl (lv_at hl 2 rfl) ?_
              obtain ⟨k22, hf⟩ := hf
              obtain ⟨h23, hf⟩ := hf
              refine gm_iald hx hb hK hW k22 h23 dX12_tidy_64 ?_
              refine lv_iadd hx hb dX12_tidy_65 ?_
              refine lv_topi (fun x24 ex24 => ?_)
              replace hf := hf x24 ex24
              refine lv_istore_n (lv' := [(1, .int x24), (0, .ref v0), (2, .int x2), (3, .int x11)]) hx hb dX12_tidy_66 rfl hl (by decide) rfl (fun ls hl => ?_)
              obtain ⟨x25, ex25⟩ : ∃ y : Int32, y = x2 + 1 := ⟨_, rfl⟩
              replace hf := hf x25 ex25
              refine lv_iinc (v := x25) (lv' := [(2, .int x25), (1, .int x24), (0, .ref v0), (3, .int x11)]) hx hb dX12_tidy_67 hl (k := 2) rfl (by rw [ex25]; rfl) (by decide) rfl (fun ls hl => ?_)
              refine lv_goto (tgt := 4) hx hb dX12_tidy_70 (by decide) ?_
              exact ih4 _ _ _ _ _ _ (lv_sub hl [2, 1, 0] rfl) hW hS hf
            · replace hf := hf.2 c16
              refine lv_aload_n hx hb dX12_tidy_24 rfl (lv_at hl 0 rfl) ?_
              obtain ⟨b26, hb26, hf⟩ := hf
              refine gm_getR (C := RX12) (T := TX12) (N := 68) (j := 24) hx hb hts inT_12 hown hK hW k4 (by decide) rfl (by decide) rfl (hts _ kw_1340) rfl dX12_tidy_25 hb26 ?_
              refine lv_iload_n hx hb dX12_tidy_28 rfl (lv_at hl 1 rfl) ?_
              refine lv_iload_n hx hb dX12_tidy_29 rfl (lv_at hl 3 rfl) ?_
              refine lv_iadd hx hb dX12_tidy_30 ?_
              refine lv_aload_n hx hb dX12_tidy_31 rfl (lv_at hl 0 rfl) ?_
              obtain ⟨b27, hb27, hf⟩ := hf
              refine gm_getR (C := RX12) (T := TX12) (N := 68) (j := 23) hx hb hts inT_12 hown hK hW k4 (by decide) rfl (by decide) rfl (hts _ kw_1339) rfl dX12_tidy_32 hb27 ?_
              refine lv_aload_n hx hb dX12_tidy_35 rfl (lv_at hl 0 rfl) ?_
              obtain ⟨b28, hb28, hf⟩ := hf
              refine gm_getR (C := RX12) (T := TX12) (N := 68) (j := 20) hx hb hts inT_12 hown hK hW k4 (by decide) rfl (by decide) rfl (hts _ kw_1336) rfl dX12_tidy_36 hb28 ?_
              refine lv_iload_n hx hb dX12_tidy_39 rfl (lv_at hl 2 rfl) ?_
              obtain ⟨k29, hf⟩ := hf
              obtain ⟨h30, hf⟩ := hf
              refine gm_iald hx hb hK hW k29 h30 dX12_tidy_40 ?_
              refine lv_iload_n hx hb dX12_tidy_41 rfl (lv_at hl 3 rfl) ?_
              refine lv_iadd hx hb dX12_tidy_42 ?_
              obtain ⟨k31, hf⟩ := hf
              obtain ⟨h32, hf⟩ := hf
              refine gm_iald hx hb hK hW k31 h32 dX12_tidy_43 ?_
              obtain ⟨k33, hf⟩ := hf
              obtain ⟨h34, hf⟩ := hf
              refine gm_iast hx hb hK hW hS k33 h34 dX12_tidy_44 (fun H locs M35 eM35 hW hS => ?_)
              replace hf := hf M35 eM35
              obtain ⟨x36, ex36⟩ : ∃ y : Int32, y = x11 + 1 := ⟨_, rfl⟩
              replace hf := hf x36 ex36
              refine lv_iinc (v := x36) (lv' := [(3, .int x36), (0, .ref v0), (1, .int x1), (2, .int x2)]) hx hb dX12_tidy_45 hl (k := 3) rfl (by rw [ex36]; rfl) (by decide) rfl (fun ls hl => ?_)
              refine lv_goto (tgt := 14) hx hb dX12_tidy_48 (by decide) ?_
              exact ih14 _ _ _ _ _ (lv_sub hl [1, 2, 3, 0] rfl) hW hS hf
        exact lp14 n14 _ _ _ _ _ (lv_sub hl [1, 2, 3, 0] rfl) hW hS hf
  exact lp4 n4 _ _ _ _ _ _ (lv_sub hl [2, 1, 0] rfl) hW hS hf

abbrev rm_X12_base : Room := { frames := 3, cells := 0, slots := 0, locals := 105 }
def f_X12_base (Y : Ly) (v0 : Nat) (v1 : Int32) (M : Mm) (Kn : Int64 → Mm → Prop) : Prop :=
  yK Y v0 = 12 ∧ (∃ b2 : Nat, mR M v0 23 = some b2 ∧ (∃ b3 : Nat, mR M v0 20 = some b3 ∧ (yK Y b3 = 101 ∧ (vp_in v1 (yN Y b3) ∧ (f_X12_number Y b2 (mI M b3 v1.toNatClampNeg) 8 M (fun r7 M6 => (Kn r7 M6)))))))
set_option maxHeartbeats 4000000 in
set_option maxRecDepth 100000 in
theorem m_X12_base (l : Launch) (D : va_G) (cy : Cy) (tq sz : Nat) (Y : Ly) (v0 : Nat) (v1 : Int32) (M : Mm) (Kn : Int64 → Mm → Prop) : Met l yX12_base (Cond.code yX12_base cX12_base 2 (some .long) :: TT) rm_X12_base (PcG D cy tq [.ref v0, .int v1] sz Y M (f_X12_base Y v0 v1 M Kn)) (va_Ql Kn (BG D cy (Am Y sz) Y) (Am Y sz)) 0 0 (Am Y sz) := by
  refine Met.ofW (cc := cX12_base) (maxL := 2) (ret := (some .long)) (by decide) rfl ?_
  intro p e s m args below meth c s₁ B hml hv
  obtain ⟨hargs, hsz, hW, hK, hC, hf⟩ := hv
  subst hsz
  have hx := B.exec
  have hb := B.bytes
  have hr := B.returns
  have hts : ∀ w ∈ TT, w.before args s = true := fun w h => atoms_spec (ws := Cond.code yX12_base cX12_base 2 (some .long) :: TT) B.pre w (List.mem_cons_of_mem _ h)
  have hown : s.vm.findClass RX12 = some m.cls := findClass_of_methodNamed B.named
  have hlocks := B.notSynchronized
  replace hW := Wd_self (sz := s.heap.size) hW
  generalize hAe : Am Y s.heap.size = A at hW hC ⊢
  have hA : ∀ q : Nat, s.heap.size ≤ q → A q := fun q h => by rw [← hAe]; exact Or.inr h
  clear hAe
  have hS : va_S A s.heap s.heap [] := va_S.rf
  obtain ⟨ls, hE, hl⟩ := gm_entry m [.ref v0, .int v1] (n := 2) hargs (Nat.le_of_ble_eq_true rfl)
  rw [hE]
  have hl : lv_has ls 2 [(0, .ref v0), (1, .int v1)] := hl
  show W p l e rm_X12_base s m args below meth c s.heap [] 0 0 (MQ below (va_Ql Kn (BG D cy A Y) A) args s 0 0 A) (F0 m 0 ls [])
  unfold f_X12_base at hf
  refine lv_aload_n hx hb dX12_base_0 rfl (lv_at hl 0 rfl) ?_
  obtain ⟨k1, hf⟩ := hf
  obtain ⟨b2, hb2, hf⟩ := hf
  refine gm_getR (C := RX12) (T := TX12) (N := 68) (j := 23) hx hb hts inT_12 hown hK hW k1 (by decide) rfl (by decide) rfl (hts _ kw_1339) rfl dX12_base_1 hb2 ?_
  refine lv_aload_n hx hb dX12_base_4 rfl (lv_at hl 0 rfl) ?_
  obtain ⟨b3, hb3, hf⟩ := hf
  refine gm_getR (C := RX12) (T := TX12) (N := 68) (j := 20) hx hb hts inT_12 hown hK hW k1 (by decide) rfl (by decide) rfl (hts _ kw_1336) rfl dX12_base_5 hb3 ?_
  refine lv_iload_n hx hb dX12_base_8 rfl (lv_at hl 1 rfl) ?_
  obtain ⟨k4, hf⟩ := hf
  obtain ⟨h5, hf⟩ := hf
  refine gm_iald hx hb hK hW k4 h5 dX12_base_9 ?_
  refine lv_bipush (v := 8) hx hb dX12_base_10 (by decide +kernel) ?_
  refine gm_cl (va_runS (As := [.ref b2, .int (mI M b3 v1.toNatClampNeg), .int 8]) (rest := []) ⟨hx, hb, hml, hown, hts⟩ (m_X12_number l D cy tq _ Y _ _ _ _ _) (va_cwS 3 hts (good_S kw_1520 kw_1521 kw_12 kw_1522) rfl rfl rfl (by decide +kernel) ⟨Nat.le_of_ble_eq_true rfl, Nat.le_of_ble_eq_true rfl⟩) (gm_preS hK hW hC hS hA hf) rfl rfl hl.1 rfl (lv_room (Nat.le_of_ble_eq_true rfl)) dX12_base_12 ⟨Nat.le_of_ble_eq_true rfl, Nat.le_of_ble_eq_true rfl⟩) hW hS hA (fun r7 M6 H locs hW hS hf => ?_)
  exact gm_lret hx hb hr hlocks hW hS hf dX12_base_15

abbrev rm_X12_last : Room := { frames := 3, cells := 0, slots := 0, locals := 105 }
def f_X12_last (Y : Ly) (v0 : Nat) (v1 : Int32) (M : Mm) (Kn : Int32 → Mm → Prop) : Prop :=
  yK Y v0 = 12 ∧ (∃ b2 : Nat, mR M v0 23 = some b2 ∧ (∃ b3 : Nat, mR M v0 20 = some b3 ∧ (yK Y b3 = 101 ∧ (vp_in v1 (yN Y b3) ∧ (f_X12_number Y b2 ((mI M b3 v1.toNatClampNeg) + 23) 4 M (fun r7 M6 => (Kn r7.toInt32 M6)))))))
set_option maxHeartbeats 4000000 in
set_option maxRecDepth 100000 in
theorem m_X12_last (l : Launch) (D : va_G) (cy : Cy) (tq sz : Nat) (Y : Ly) (v0 : Nat) (v1 : Int32) (M : Mm) (Kn : Int32 → Mm → Prop) : Met l yX12_last (Cond.code yX12_last cX12_last 2 (some .int) :: TT) rm_X12_last (PcG D cy tq [.ref v0, .int v1] sz Y M (f_X12_last Y v0 v1 M Kn)) (va_Qi Kn (BG D cy (Am Y sz) Y) (Am Y sz)) 0 0 (Am Y sz) := by
  refine Met.ofW (cc := cX12_last) (maxL := 2) (ret := (some .int)) (by decide) rfl ?_
  intro p e s m args below meth c s₁ B hml hv
  obtain ⟨hargs, hsz, hW, hK, hC, hf⟩ := hv
  subst hsz
  have hx := B.exec
  have hb := B.bytes
  have hr := B.returns
  have hts : ∀ w ∈ TT, w.before args s = true := fun w h => atoms_spec (ws := Cond.code yX12_last cX12_last 2 (some .int) :: TT) B.pre w (List.mem_cons_of_mem _ h)
  have hown : s.vm.findClass RX12 = some m.cls := findClass_of_methodNamed B.named
  have hlocks := B.notSynchronized
  replace hW := Wd_self (sz := s.heap.size) hW
  generalize hAe : Am Y s.heap.size = A at hW hC ⊢
  have hA : ∀ q : Nat, s.heap.size ≤ q → A q := fun q h => by rw [← hAe]; exact Or.inr h
  clear hAe
  have hS : va_S A s.heap s.heap [] := va_S.rf
  obtain ⟨ls, hE, hl⟩ := gm_entry m [.ref v0, .int v1] (n := 2) hargs (Nat.le_of_ble_eq_true rfl)
  rw [hE]
  have hl : lv_has ls 2 [(0, .ref v0), (1, .int v1)] := hl
  show W p l e rm_X12_last s m args below meth c s.heap [] 0 0 (MQ below (va_Qi Kn (BG D cy A Y) A) args s 0 0 A) (F0 m 0 ls [])
  unfold f_X12_last at hf
  refine lv_aload_n hx hb dX12_last_0 rfl (lv_at hl 0 rfl) ?_
  obtain ⟨k1, hf⟩ := hf
  obtain ⟨b2, hb2, hf⟩ := hf
  refine gm_getR (C := RX12) (T := TX12) (N := 68) (j := 23) hx hb hts inT_12 hown hK hW k1 (by decide) rfl (by decide) rfl (hts _ kw_1339) rfl dX12_last_1 hb2 ?_
  refine lv_aload_n hx hb dX12_last_4 rfl (lv_at hl 0 rfl) ?_
  obtain ⟨b3, hb3, hf⟩ := hf
  refine gm_getR (C := RX12) (T := TX12) (N := 68) (j := 20) hx hb hts inT_12 hown hK hW k1 (by decide) rfl (by decide) rfl (hts _ kw_1336) rfl dX12_last_5 hb3 ?_
  refine lv_iload_n hx hb dX12_last_8 rfl (lv_at hl 1 rfl) ?_
  obtain ⟨k4, hf⟩ := hf
  obtain ⟨h5, hf⟩ := hf
  refine gm_iald hx hb hK hW k4 h5 dX12_last_9 ?_
  refine lv_bipush (v := 23) hx hb dX12_last_10 (by decide +kernel) ?_
  refine lv_iadd hx hb dX12_last_12 ?_
  refine lv_iconst (v := 4) hx hb dX12_last_13 (by decide +kernel) ?_
  refine gm_cl (va_runS (As := [.ref b2, .int ((mI M b3 v1.toNatClampNeg) + 23), .int 4]) (rest := []) ⟨hx, hb, hml, hown, hts⟩ (m_X12_number l D cy tq _ Y _ _ _ _ _) (va_cwS 3 hts (good_S kw_1520 kw_1521 kw_12 kw_1522) rfl rfl rfl (by decide +kernel) ⟨Nat.le_of_ble_eq_true rfl, Nat.le_of_ble_eq_true rfl⟩) (gm_preS hK hW hC hS hA hf) rfl rfl hl.1 rfl (lv_room (Nat.le_of_ble_eq_true rfl)) dX12_last_14 ⟨Nat.le_of_ble_eq_true rfl, Nat.le_of_ble_eq_true rfl⟩) hW hS hA (fun r7 M6 H locs hW hS hf => ?_)
  refine lv_l2i hx hb dX12_last_17 rfl ?_
  exact gm_iret hx hb hr hlocks hW hS hf dX12_last_18

abbrev rm_X12_producerOf : Room := { frames := 3, cells := 0, slots := 0, locals := 105 }
def f_X12_producerOf (Y : Ly) (v0 : Nat) (v1 : Int32) (M : Mm) (Kn : Int64 → Mm → Prop) : Prop :=
  yK Y v0 = 12 ∧ (∃ b2 : Nat, mR M v0 23 = some b2 ∧ (∃ b3 : Nat, mR M v0 20 = some b3 ∧ (yK Y b3 = 101 ∧ (vp_in v1 (yN Y b3) ∧ (f_X12_number Y b2 ((mI M b3 v1.toNatClampNeg) + 43) 8 M (fun r7 M6 => (Kn r7 M6)))))))
set_option maxHeartbeats 4000000 in
set_option maxRecDepth 100000 in
theorem m_X12_producerOf (l : Launch) (D : va_G) (cy : Cy) (tq sz : Nat) (Y : Ly) (v0 : Nat) (v1 : Int32) (M : Mm) (Kn : Int64 → Mm → Prop) : Met l yX12_producerOf (Cond.code yX12_producerOf cX12_producerOf 2 (some .long) :: TT) rm_X12_producerOf (PcG D cy tq [.ref v0, .int v1] sz Y M (f_X12_producerOf Y v0 v1 M Kn)) (va_Ql Kn (BG D cy (Am Y sz) Y) (Am Y sz)) 0 0 (Am Y sz) := by
  refine Met.ofW (cc := cX12_producerOf) (maxL := 2) (ret := (some .long)) (by decide) rfl ?_
  intro p e s m args below meth c s₁ B hml hv
  obtain ⟨hargs, hsz, hW, hK, hC, hf⟩ := hv
  subst hsz
  have hx := B.exec
  have hb := B.bytes
  have hr := B.returns
  have hts : ∀ w ∈ TT, w.before args s = true := fun w h => atoms_spec (ws := Cond.code yX12_producerOf cX12_producerOf 2 (some .long) :: TT) B.pre w (List.mem_cons_of_mem _ h)
  have hown : s.vm.findClass RX12 = some m.cls := findClass_of_methodNamed B.named
  have hlocks := B.notSynchronized
  replace hW := Wd_self (sz := s.heap.size) hW
  generalize hAe : Am Y s.heap.size = A at hW hC ⊢
  have hA : ∀ q : Nat, s.heap.size ≤ q → A q := fun q h => by rw [← hAe]; exact Or.inr h
  clear hAe
  have hS : va_S A s.heap s.heap [] := va_S.rf
  obtain ⟨ls, hE, hl⟩ := gm_entry m [.ref v0, .int v1] (n := 2) hargs (Nat.le_of_ble_eq_true rfl)
  rw [hE]
  have hl : lv_has ls 2 [(0, .ref v0), (1, .int v1)] := hl
  show W p l e rm_X12_producerOf s m args below meth c s.heap [] 0 0 (MQ below (va_Ql Kn (BG D cy A Y) A) args s 0 0 A) (F0 m 0 ls [])
  unfold f_X12_producerOf at hf
  refine lv_aload_n hx hb dX12_producerOf_0 rfl (lv_at hl 0 rfl) ?_
  obtain ⟨k1, hf⟩ := hf
  obtain ⟨b2, hb2, hf⟩ := hf
  refine gm_getR (C := RX12) (T := TX12) (N := 68) (j := 23) hx hb hts inT_12 hown hK hW k1 (by decide) rfl (by decide) rfl (hts _ kw_1339) rfl dX12_producerOf_1 hb2 ?_
  refine lv_aload_n hx hb dX12_producerOf_4 rfl (lv_at hl 0 rfl) ?_
  obtain ⟨b3, hb3, hf⟩ := hf
  refine gm_getR (C := RX12) (T := TX12) (N := 68) (j := 20) hx hb hts inT_12 hown hK hW k1 (by decide) rfl (by decide) rfl (hts _ kw_1336) rfl dX12_producerOf_5 hb3 ?_
  refine lv_iload_n hx hb dX12_producerOf_8 rfl (lv_at hl 1 rfl) ?_
  obtain ⟨k4, hf⟩ := hf
  obtain ⟨h5, hf⟩ := hf
  refine gm_iald hx hb hK hW k4 h5 dX12_producerOf_9 ?_
  refine lv_bipush (v := 43) hx hb dX12_producerOf_10 (by decide +kernel) ?_
  refine lv_iadd hx hb dX12_producerOf_12 ?_
  refine lv_bipush (v := 8) hx hb dX12_producerOf_13 (by decide +kernel) ?_
  refine gm_cl (va_runS (As := [.ref b2, .int ((mI M b3 v1.toNatClampNeg) + 43), .int 8]) (rest := []) ⟨hx, hb, hml, hown, hts⟩ (m_X12_number l D cy tq _ Y _ _ _ _ _) (va_cwS 3 hts (good_S kw_1520 kw_1521 kw_12 kw_1522) rfl rfl rfl (by decide +kernel) ⟨Nat.le_of_ble_eq_true rfl, Nat.le_of_ble_eq_true rfl⟩) (gm_preS hK hW hC hS hA hf) rfl rfl hl.1 rfl (lv_room (Nat.le_of_ble_eq_true rfl)) dX12_producerOf_15 ⟨Nat.le_of_ble_eq_true rfl, Nat.le_of_ble_eq_true rfl⟩) hW hS hA (fun r7 M6 H locs hW hS hf => ?_)
  exact gm_lret hx hb hr hlocks hW hS hf dX12_producerOf_18

abbrev rm_X12_epochOf : Room := { frames := 3, cells := 0, slots := 0, locals := 105 }
def f_X12_epochOf (Y : Ly) (v0 : Nat) (v1 : Int32) (M : Mm) (Kn : Int32 → Mm → Prop) : Prop :=
  yK Y v0 = 12 ∧ (∃ b2 : Nat, mR M v0 23 = some b2 ∧ (∃ b3 : Nat, mR M v0 20 = some b3 ∧ (yK Y b3 = 101 ∧ (vp_in v1 (yN Y b3) ∧ (f_X12_number Y b2 ((mI M b3 v1.toNatClampNeg) + 51) 2 M (fun r7 M6 => (Kn r7.toInt32 M6)))))))
set_option maxHeartbeats 4000000 in
set_option maxRecDepth 100000 in
theorem m_X12_epochOf (l : Launch) (D : va_G) (cy : Cy) (tq sz : Nat) (Y : Ly) (v0 : Nat) (v1 : Int32) (M : Mm) (Kn : Int32 → Mm → Prop) : Met l yX12_epochOf (Cond.code yX12_epochOf cX12_epochOf 2 (some .int) :: TT) rm_X12_epochOf (PcG D cy tq [.ref v0, .int v1] sz Y M (f_X12_epochOf Y v0 v1 M Kn)) (va_Qi Kn (BG D cy (Am Y sz) Y) (Am Y sz)) 0 0 (Am Y sz) := by
  refine Met.ofW (cc := cX12_epochOf) (maxL := 2) (ret := (some .int)) (by decide) rfl ?_
  intro p e s m args below meth c s₁ B hml hv
  obtain ⟨hargs, hsz, hW, hK, hC, hf⟩ := hv
  subst hsz
  have hx := B.exec
  have hb := B.bytes
  have hr := B.returns
  have hts : ∀ w ∈ TT, w.before args s = true := fun w h => atoms_spec (ws := Cond.code yX12_epochOf cX12_epochOf 2 (some .int) :: TT) B.pre w (List.mem_cons_of_mem _ h)
  have hown : s.vm.findClass RX12 = some m.cls := findClass_of_methodNamed B.named
  have hlocks := B.notSynchronized
  replace hW := Wd_self (sz := s.heap.size) hW
  generalize hAe : Am Y s.heap.size = A at hW hC ⊢
  have hA : ∀ q : Nat, s.heap.size ≤ q → A q := fun q h => by rw [← hAe]; exact Or.inr h
  clear hAe
  have hS : va_S A s.heap s.heap [] := va_S.rf
  obtain ⟨ls, hE, hl⟩ := gm_entry m [.ref v0, .int v1] (n := 2) hargs (Nat.le_of_ble_eq_true rfl)
  rw [hE]
  have hl : lv_has ls 2 [(0, .ref v0), (1, .int v1)] := hl
  show W p l e rm_X12_epochOf s m args below meth c s.heap [] 0 0 (MQ below (va_Qi Kn (BG D cy A Y) A) args s 0 0 A) (F0 m 0 ls [])
  unfold f_X12_epochOf at hf
  refine lv_aload_n hx hb dX12_epochOf_0 rfl (lv_at hl 0 rfl) ?_
  obtain ⟨k1, hf⟩ := hf
  obtain ⟨b2, hb2, hf⟩ := hf
  refine gm_getR (C := RX12) (T := TX12) (N := 68) (j := 23) hx hb hts inT_12 hown hK hW k1 (by decide) rfl (by decide) rfl (hts _ kw_1339) rfl dX12_epochOf_1 hb2 ?_
  refine lv_aload_n hx hb dX12_epochOf_4 rfl (lv_at hl 0 rfl) ?_
  obtain ⟨b3, hb3, hf⟩ := hf
  refine gm_getR (C := RX12) (T := TX12) (N := 68) (j := 20) hx hb hts inT_12 hown hK hW k1 (by decide) rfl (by decide) rfl (hts _ kw_1336) rfl dX12_epochOf_5 hb3 ?_
  refine lv_iload_n hx hb dX12_epochOf_8 rfl (lv_at hl 1 rfl) ?_
  obtain ⟨k4, hf⟩ := hf
  obtain ⟨h5, hf⟩ := hf
  refine gm_iald hx hb hK hW k4 h5 dX12_epochOf_9 ?_
  refine lv_bipush (v := 51) hx hb dX12_epochOf_10 (by decide +kernel) ?_
  refine lv_iadd hx hb dX12_epochOf_12 ?_
  refine lv_iconst (v := 2) hx hb dX12_epochOf_13 (by decide +kernel) ?_
  refine gm_cl (va_runS (As := [.ref b2, .int ((mI M b3 v1.toNatClampNeg) + 51), .int 2]) (rest := []) ⟨hx, hb, hml, hown, hts⟩ (m_X12_number l D cy tq _ Y _ _ _ _ _) (va_cwS 3 hts (good_S kw_1520 kw_1521 kw_12 kw_1522) rfl rfl rfl (by decide +kernel) ⟨Nat.le_of_ble_eq_true rfl, Nat.le_of_ble_eq_true rfl⟩) (gm_preS hK hW hC hS hA hf) rfl rfl hl.1 rfl (lv_room (Nat.le_of_ble_eq_true rfl)) dX12_epochOf_14 ⟨Nat.le_of_ble_eq_true rfl, Nat.le_of_ble_eq_true rfl⟩) hW hS hA (fun r7 M6 H locs hW hS hf => ?_)
  refine lv_l2i hx hb dX12_epochOf_17 rfl ?_
  exact gm_iret hx hb hr hlocks hW hS hf dX12_epochOf_18

abbrev rm_X12_sequenceOf : Room := { frames := 3, cells := 0, slots := 0, locals := 105 }
def f_X12_sequenceOf (Y : Ly) (v0 : Nat) (v1 : Int32) (M : Mm) (Kn : Int32 → Mm → Prop) : Prop :=
  yK Y v0 = 12 ∧ (∃ b2 : Nat, mR M v0 23 = some b2 ∧ (∃ b3 : Nat, mR M v0 20 = some b3 ∧ (yK Y b3 = 101 ∧ (vp_in v1 (yN Y b3) ∧ (f_X12_number Y b2 ((mI M b3 v1.toNatClampNeg) + 53) 4 M (fun r7 M6 => (Kn r7.toInt32 M6)))))))
set_option maxHeartbeats 4000000 in
set_option maxRecDepth 100000 in
theorem m_X12_sequenceOf (l : Launch) (D : va_G) (cy : Cy) (tq sz : Nat) (Y : Ly) (v0 : Nat) (v1 : Int32) (M : Mm) (Kn : Int32 → Mm → Prop) : Met l yX12_sequenceOf (Cond.code yX12_sequenceOf cX12_sequenceOf 2 (some .int) :: TT) rm_X12_sequenceOf (PcG D cy tq [.ref v0, .int v1] sz Y M (f_X12_sequenceOf Y v0 v1 M Kn)) (va_Qi Kn (BG D cy (Am Y sz) Y) (Am Y sz)) 0 0 (Am Y sz) := by
  refine Met.ofW (cc := cX12_sequenceOf) (maxL := 2) (ret := (some .int)) (by decide) rfl ?_
  intro p e s m args below meth c s₁ B hml hv
  obtain ⟨hargs, hsz, hW, hK, hC, hf⟩ := hv
  subst hsz
  have hx := B.exec
  have hb := B.bytes
  have hr := B.returns
  have hts : ∀ w ∈ TT, w.before args s = true := fun w h => atoms_spec (ws := Cond.code yX12_sequenceOf cX12_sequenceOf 2 (some .int) :: TT) B.pre w (List.mem_cons_of_mem _ h)
  have hown : s.vm.findClass RX12 = some m.cls := findClass_of_methodNamed B.named
  have hlocks := B.notSynchronized
  replace hW := Wd_self (sz := s.heap.size) hW
  generalize hAe : Am Y s.heap.size = A at hW hC ⊢
  have hA : ∀ q : Nat, s.heap.size ≤ q → A q := fun q h => by rw [← hAe]; exact Or.inr h
  clear hAe
  have hS : va_S A s.heap s.heap [] := va_S.rf
  obtain ⟨ls, hE, hl⟩ := gm_entry m [.ref v0, .int v1] (n := 2) hargs (Nat.le_of_ble_eq_true rfl)
  rw [hE]
  have hl : lv_has ls 2 [(0, .ref v0), (1, .int v1)] := hl
  show W p l e rm_X12_sequenceOf s m args below meth c s.heap [] 0 0 (MQ below (va_Qi Kn (BG D cy A Y) A) args s 0 0 A) (F0 m 0 ls [])
  unfold f_X12_sequenceOf at hf
  refine lv_aload_n hx hb dX12_sequenceOf_0 rfl (lv_at hl 0 rfl) ?_
  obtain ⟨k1, hf⟩ := hf
  obtain ⟨b2, hb2, hf⟩ := hf
  refine gm_getR (C := RX12) (T := TX12) (N := 68) (j := 23) hx hb hts inT_12 hown hK hW k1 (by decide) rfl (by decide) rfl (hts _ kw_1339) rfl dX12_sequenceOf_1 hb2 ?_
  refine lv_aload_n hx hb dX12_sequenceOf_4 rfl (lv_at hl 0 rfl) ?_
  obtain ⟨b3, hb3, hf⟩ := hf
  refine gm_getR (C := RX12) (T := TX12) (N := 68) (j := 20) hx hb hts inT_12 hown hK hW k1 (by decide) rfl (by decide) rfl (hts _ kw_1336) rfl dX12_sequenceOf_5 hb3 ?_
  refine lv_iload_n hx hb dX12_sequenceOf_8 rfl (lv_at hl 1 rfl) ?_
  obtain ⟨k4, hf⟩ := hf
  obtain ⟨h5, hf⟩ := hf
  refine gm_iald hx hb hK hW k4 h5 dX12_sequenceOf_9 ?_
  refine lv_bipush (v := 53) hx hb dX12_sequenceOf_10 (by decide +kernel) ?_
  refine lv_iadd hx hb dX12_sequenceOf_12 ?_
  refine lv_iconst (v := 4) hx hb dX12_sequenceOf_13 (by decide +kernel) ?_
  refine gm_cl (va_runS (As := [.ref b2, .int ((mI M b3 v1.toNatClampNeg) + 53), .int 4]) (rest := []) ⟨hx, hb, hml, hown, hts⟩ (m_X12_number l D cy tq _ Y _ _ _ _ _) (va_cwS 3 hts (good_S kw_1520 kw_1521 kw_12 kw_1522) rfl rfl rfl (by decide +kernel) ⟨Nat.le_of_ble_eq_true rfl, Nat.le_of_ble_eq_true rfl⟩) (gm_preS hK hW hC hS hA hf) rfl rfl hl.1 rfl (lv_room (Nat.le_of_ble_eq_true rfl)) dX12_sequenceOf_14 ⟨Nat.le_of_ble_eq_true rfl, Nat.le_of_ble_eq_true rfl⟩) hW hS hA (fun r7 M6 H locs hW hS hf => ?_)
  refine lv_l2i hx hb dX12_sequenceOf_17 rfl ?_
  exact gm_iret hx hb hr hlocks hW hS hf dX12_sequenceOf_18

abbrev rm_X12_countOf : Room := { frames := 3, cells := 0, slots := 0, locals := 105 }
def f_X12_countOf (Y : Ly) (v0 : Nat) (v1 : Int32) (M : Mm) (Kn : Int32 → Mm → Prop) : Prop :=
  yK Y v0 = 12 ∧ (∃ b2 : Nat, mR M v0 23 = some b2 ∧ (∃ b3 : Nat, mR M v0 20 = some b3 ∧ (yK Y b3 = 101 ∧ (vp_in v1 (yN Y b3) ∧ (f_X12_number Y b2 ((mI M b3 v1.toNatClampNeg) + 57) 4 M (fun r7 M6 => (Kn r7.toInt32 M6)))))))
set_option maxHeartbeats 4000000 in
set_option maxRecDepth 100000 in
theorem m_X12_countOf (l : Launch) (D : va_G) (cy : Cy) (tq sz : Nat) (Y : Ly) (v0 : Nat) (v1 : Int32) (M : Mm) (Kn : Int32 → Mm → Prop) : Met l yX12_countOf (Cond.code yX12_countOf cX12_countOf 2 (some .int) :: TT) rm_X12_countOf (PcG D cy tq [.ref v0, .int v1] sz Y M (f_X12_countOf Y v0 v1 M Kn)) (va_Qi Kn (BG D cy (Am Y sz) Y) (Am Y sz)) 0 0 (Am Y sz) := by
  refine Met.ofW (cc := cX12_countOf) (maxL := 2) (ret := (some .int)) (by decide) rfl ?_
  intro p e s m args below meth c s₁ B hml hv
  obtain ⟨hargs, hsz, hW, hK, hC, hf⟩ := hv
  subst hsz
  have hx := B.exec
  have hb := B.bytes
  have hr := B.returns
  have hts : ∀ w ∈ TT, w.before args s = true := fun w h => atoms_spec (ws := Cond.code yX12_countOf cX12_countOf 2 (some .int) :: TT) B.pre w (List.mem_cons_of_mem _ h)
  have hown : s.vm.findClass RX12 = some m.cls := findClass_of_methodNamed B.named
  have hlocks := B.notSynchronized
  replace hW := Wd_self (sz := s.heap.size) hW
  generalize hAe : Am Y s.heap.size = A at hW hC ⊢
  have hA : ∀ q : Nat, s.heap.size ≤ q → A q := fun q h => by rw [← hAe]; exact Or.inr h
  clear hAe
  have hS : va_S A s.heap s.heap [] := va_S.rf
  obtain ⟨ls, hE, hl⟩ := gm_entry m [.ref v0, .int v1] (n := 2) hargs (Nat.le_of_ble_eq_true rfl)
  rw [hE]
  have hl : lv_has ls 2 [(0, .ref v0), (1, .int v1)] := hl
  show W p l e rm_X12_countOf s m args below meth c s.heap [] 0 0 (MQ below (va_Qi Kn (BG D cy A Y) A) args s 0 0 A) (F0 m 0 ls [])
  unfold f_X12_countOf at hf
  refine lv_aload_n hx hb dX12_countOf_0 rfl (lv_at hl 0 rfl) ?_
  obtain ⟨k1, hf⟩ := hf
  obtain ⟨b2, hb2, hf⟩ := hf
  refine gm_getR (C := RX12) (T := TX12) (N := 68) (j := 23) hx hb hts inT_12 hown hK hW k1 (by decide) rfl (by decide) rfl (hts _ kw_1339) rfl dX12_countOf_1 hb2 ?_
  refine lv_aload_n hx hb dX12_countOf_4 rfl (lv_at hl 0 rfl) ?_
  obtain ⟨b3, hb3, hf⟩ := hf
  refine gm_getR (C := RX12) (T := TX12) (N := 68) (j := 20) hx hb hts inT_12 hown hK hW k1 (by decide) rfl (by decide) rfl (hts _ kw_1336) rfl dX12_countOf_5 hb3 ?_
  refine lv_iload_n hx hb dX12_countOf_8 rfl (lv_at hl 1 rfl) ?_
  obtain ⟨k4, hf⟩ := hf
  obtain ⟨h5, hf⟩ := hf
  refine gm_iald hx hb hK hW k4 h5 dX12_countOf_9 ?_
  refine lv_bipush (v := 57) hx hb dX12_countOf_10 (by decide +kernel) ?_
  refine lv_iadd hx hb dX12_countOf_12 ?_
  refine lv_iconst (v := 4) hx hb dX12_countOf_13 (by decide +kernel) ?_
  refine gm_cl (va_runS (As := [.ref b2, .int ((mI M b3 v1.toNatClampNeg) + 57), .int 4]) (rest := []) ⟨hx, hb, hml, hown, hts⟩ (m_X12_number l D cy tq _ Y _ _ _ _ _) (va_cwS 3 hts (good_S kw_1520 kw_1521 kw_12 kw_1522) rfl rfl rfl (by decide +kernel) ⟨Nat.le_of_ble_eq_true rfl, Nat.le_of_ble_eq_true rfl⟩) (gm_preS hK hW hC hS hA hf) rfl rfl hl.1 rfl (lv_room (Nat.le_of_ble_eq_true rfl)) dX12_countOf_14 ⟨Nat.le_of_ble_eq_true rfl, Nat.le_of_ble_eq_true rfl⟩) hW hS hA (fun r7 M6 H locs hW hS hf => ?_)
  refine lv_l2i hx hb dX12_countOf_17 rfl ?_
  exact gm_iret hx hb hr hlocks hW hS hf dX12_countOf_18

abbrev rm_X12_readsBatch : Room := { frames := 3, cells := 0, slots := 0, locals := 103 }
def f_X12_readsBatch (Y : Ly) (v0 : Nat) (v1 : Int32) (M : Mm) (Kn : Mm → Prop) : Prop :=
  yK Y v0 = 12 ∧ (∃ b2 : Nat, mR M v0 23 = some b2 ∧ (∃ b3 : Nat, mR M v0 20 = some b3 ∧ (yK Y b3 = 101 ∧ (vp_in v1 (yN Y b3) ∧ (∃ b6 : Nat, mR M v0 20 = some b6 ∧ (yK Y b6 = 101 ∧ (vp_in v1 (yN Y b6) ∧ (∃ b9 : Nat, mR M v0 21 = some b9 ∧ (yK Y b9 = 101 ∧ (vp_in v1 (yN Y b9) ∧ (f_X12_reads Y v0 b2 ((mI M b3 v1.toNatClampNeg) + 61) ((mI M b6 v1.toNatClampNeg) + (mI M b9 v1.toNatClampNeg)) M (fun M12 => (Kn M12)))))))))))))
set_option maxHeartbeats 4000000 in
set_option maxRecDepth 100000 in
theorem m_X12_readsBatch (l : Launch) (D : va_G) (cy : Cy) (tq sz : Nat) (Y : Ly) (v0 : Nat) (v1 : Int32) (M : Mm) (Kn : Mm → Prop) : Met l yX12_readsBatch (Cond.code yX12_readsBatch cX12_readsBatch 2 none :: TT) rm_X12_readsBatch (PcG D cy tq [.ref v0, .int v1] sz Y M (f_X12_readsBatch Y v0 v1 M Kn)) (va_Qv Kn (BG D cy (Am Y sz) Y) (Am Y sz)) 0 0 (Am Y sz) := by
  refine Met.ofW (cc := cX12_readsBatch) (maxL := 2) (ret := none) (by decide) rfl ?_
  intro p e s m args below meth c s₁ B hml hv
  obtain ⟨hargs, hsz, hW, hK, hC, hf⟩ := hv
  subst hsz
  have hx := B.exec
  have hb := B.bytes
  have hr := B.returns
  have hts : ∀ w ∈ TT, w.before args s = true := fun w h => atoms_spec (ws := Cond.code yX12_readsBatch cX12_readsBatch 2 none :: TT) B.pre w (List.mem_cons_of_mem _ h)
  have hown : s.vm.findClass RX12 = some m.cls := findClass_of_methodNamed B.named
  have hlocks := B.notSynchronized
  replace hW := Wd_self (sz := s.heap.size) hW
  generalize hAe : Am Y s.heap.size = A at hW hC ⊢
  have hA : ∀ q : Nat, s.heap.size ≤ q → A q := fun q h => by rw [← hAe]; exact Or.inr h
  clear hAe
  have hS : va_S A s.heap s.heap [] := va_S.rf
  obtain ⟨ls, hE, hl⟩ := gm_entry m [.ref v0, .int v1] (n := 2) hargs (Nat.le_of_ble_eq_true rfl)
  rw [hE]
  have hl : lv_has ls 2 [(0, .ref v0), (1, .int v1)] := hl
  show W p l e rm_X12_readsBatch s m args below meth c s.heap [] 0 0 (MQ below (va_Qv Kn (BG D cy A Y) A) args s 0 0 A) (F0 m 0 ls [])
  unfold f_X12_readsBatch at hf
  refine lv_aload_n hx hb dX12_readsBatch_0 rfl (lv_at hl 0 rfl) ?_
  refine lv_aload_n hx hb dX12_readsBatch_1 rfl (lv_at hl 0 rfl) ?_
  obtain ⟨k1, hf⟩ := hf
  obtain ⟨b2, hb2, hf⟩ := hf
  refine gm_getR (C := RX12) (T := TX12) (N := 68) (j := 23) hx hb hts inT_12 hown hK hW k1 (by decide) rfl (by decide) rfl (hts _ kw_1339) rfl dX12_readsBatch_2 hb2 ?_
  refine lv_aload_n hx hb dX12_readsBatch_5 rfl (lv_at hl 0 rfl) ?_
  obtain ⟨b3, hb3, hf⟩ := hf
  refine gm_getR (C := RX12) (T := TX12) (N := 68) (j := 20) hx hb hts inT_12 hown hK hW k1 (by decide) rfl (by decide) rfl (hts _ kw_1336) rfl dX12_readsBatch_6 hb3 ?_
  refine lv_iload_n hx hb dX12_readsBatch_9 rfl (lv_at hl 1 rfl) ?_
  obtain ⟨k4, hf⟩ := hf
  obtain ⟨h5, hf⟩ := hf
  refine gm_iald hx hb hK hW k4 h5 dX12_readsBatch_10 ?_
  refine lv_bipush (v := 61) hx hb dX12_readsBatch_11 (by decide +kernel) ?_
  refine lv_iadd hx hb dX12_readsBatch_13 ?_
  refine lv_aload_n hx hb dX12_readsBatch_14 rfl (lv_at hl 0 rfl) ?_
  obtain ⟨b6, hb6, hf⟩ := hf
  refine gm_getR (C := RX12) (T := TX12) (N := 68) (j := 20) hx hb hts inT_12 hown hK hW k1 (by decide) rfl (by decide) rfl (hts _ kw_1336) rfl dX12_readsBatch_15 hb6 ?_
  refine lv_iload_n hx hb dX12_readsBatch_18 rfl (lv_at hl 1 rfl) ?_
  obtain ⟨k7, hf⟩ := hf
  obtain ⟨h8, hf⟩ := hf
  refine gm_iald hx hb hK hW k7 h8 dX12_readsBatch_19 ?_
  refine lv_aload_n hx hb dX12_readsBatch_20 rfl (lv_at hl 0 rfl) ?_
  obtain ⟨b9, hb9, hf⟩ := hf
  refine gm_getR (C := RX12) (T := TX12) (N := 68) (j := 21) hx hb hts inT_12 hown hK hW k1 (by decide) rfl (by decide) rfl (hts _ kw_1337) rfl dX12_readsBatch_21 hb9 ?_
  refine lv_iload_n hx hb dX12_readsBatch_24 rfl (lv_at hl 1 rfl) ?_
  obtain ⟨k10, hf⟩ := hf
  obtain ⟨h11, hf⟩ := hf
  refine gm_iald hx hb hK hW k10 h11 dX12_readsBatch_25 ?_
  refine lv_iadd hx hb dX12_readsBatch_26 ?_
  refine gm_cv (va_runV (As := [.ref b2, .int ((mI M b3 v1.toNatClampNeg) + 61), .int ((mI M b6 v1.toNatClampNeg) + (mI M b9 v1.toNatClampNeg))]) (rest := []) ⟨hx, hb, hml, hown, hts⟩ (m_X12_reads l D cy tq _ Y _ _ _ _ _ _) (cwV 3 hts (good_V kw_1536 kw_1537 kw_1832 kw_12 kw_1538) rfl rfl rfl (by decide +kernel) ⟨Nat.le_of_ble_eq_true rfl, Nat.le_of_ble_eq_true rfl⟩) (gm_preV hK hW hC hS hA k1 (by decide) (q := (RX12, TX12, 68)) rfl rfl hf) rfl rfl hl.1 rfl (lv_room (Nat.le_of_ble_eq_true rfl)) dX12_readsBatch_27 ⟨Nat.le_of_ble_eq_true rfl, Nat.le_of_ble_eq_true rfl⟩) hW hS hA (fun M12 H locs hW hS hf => ?_)
  exact gm_vret hx hb hr hlocks hW hS hf dX12_readsBatch_30

abbrev rm_X12_firstTime : Room := { frames := 3, cells := 0, slots := 0, locals := 105 }
def f_X12_firstTime (Y : Ly) (v0 : Nat) (v1 : Int32) (M : Mm) (Kn : Int64 → Mm → Prop) : Prop :=
  yK Y v0 = 12 ∧ (∃ b2 : Nat, mR M v0 23 = some b2 ∧ (∃ b3 : Nat, mR M v0 20 = some b3 ∧ (yK Y b3 = 101 ∧ (vp_in v1 (yN Y b3) ∧ (f_X12_number Y b2 ((mI M b3 v1.toNatClampNeg) + 27) 8 M (fun r7 M6 => (Kn r7 M6)))))))
set_option maxHeartbeats 4000000 in
set_option maxRecDepth 100000 in
theorem m_X12_firstTime (l : Launch) (D : va_G) (cy : Cy) (tq sz : Nat) (Y : Ly) (v0 : Nat) (v1 : Int32) (M : Mm) (Kn : Int64 → Mm → Prop) : Met l yX12_firstTime (Cond.code yX12_firstTime cX12_firstTime 2 (some .long) :: TT) rm_X12_firstTime (PcG D cy tq [.ref v0, .int v1] sz Y M (f_X12_firstTime Y v0 v1 M Kn)) (va_Ql Kn (BG D cy (Am Y sz) Y) (Am Y sz)) 0 0 (Am Y sz) := by
  refine Met.ofW (cc := cX12_firstTime) (maxL := 2) (ret := (some .long)) (by decide) rfl ?_
  intro p e s m args below meth c s₁ B hml hv
  obtain ⟨hargs, hsz, hW, hK, hC, hf⟩ := hv
  subst hsz
  have hx := B.exec
  have hb := B.bytes
  have hr := B.returns
  have hts : ∀ w ∈ TT, w.before args s = true := fun w h => atoms_spec (ws := Cond.code yX12_firstTime cX12_firstTime 2 (some .long) :: TT) B.pre w (List.mem_cons_of_mem _ h)
  have hown : s.vm.findClass RX12 = some m.cls := findClass_of_methodNamed B.named
  have hlocks := B.notSynchronized
  replace hW := Wd_self (sz := s.heap.size) hW
  generalize hAe : Am Y s.heap.size = A at hW hC ⊢
  have hA : ∀ q : Nat, s.heap.size ≤ q → A q := fun q h => by rw [← hAe]; exact Or.inr h
  clear hAe
  have hS : va_S A s.heap s.heap [] := va_S.rf
  obtain ⟨ls, hE, hl⟩ := gm_entry m [.ref v0, .int v1] (n := 2) hargs (Nat.le_of_ble_eq_true rfl)
  rw [hE]
  have hl : lv_has ls 2 [(0, .ref v0), (1, .int v1)] := hl
  show W p l e rm_X12_firstTime s m args below meth c s.heap [] 0 0 (MQ below (va_Ql Kn (BG D cy A Y) A) args s 0 0 A) (F0 m 0 ls [])
  unfold f_X12_firstTime at hf
  refine lv_aload_n hx hb dX12_firstTime_0 rfl (lv_at hl 0 rfl) ?_
  obtain ⟨k1, hf⟩ := hf
  obtain ⟨b2, hb2, hf⟩ := hf
  refine gm_getR (C := RX12) (T := TX12) (N := 68) (j := 23) hx hb hts inT_12 hown hK hW k1 (by decide) rfl (by decide) rfl (hts _ kw_1339) rfl dX12_firstTime_1 hb2 ?_
  refine lv_aload_n hx hb dX12_firstTime_4 rfl (lv_at hl 0 rfl) ?_
  obtain ⟨b3, hb3, hf⟩ := hf
  refine gm_getR (C := RX12) (T := TX12) (N := 68) (j := 20) hx hb hts inT_12 hown hK hW k1 (by decide) rfl (by decide) rfl (hts _ kw_1336) rfl dX12_firstTime_5 hb3 ?_
  refine lv_iload_n hx hb dX12_firstTime_8 rfl (lv_at hl 1 rfl) ?_
  obtain ⟨k4, hf⟩ := hf
  obtain ⟨h5, hf⟩ := hf
  refine gm_iald hx hb hK hW k4 h5 dX12_firstTime_9 ?_
  refine lv_bipush (v := 27) hx hb dX12_firstTime_10 (by decide +kernel) ?_
  refine lv_iadd hx hb dX12_firstTime_12 ?_
  refine lv_bipush (v := 8) hx hb dX12_firstTime_13 (by decide +kernel) ?_
  refine gm_cl (va_runS (As := [.ref b2, .int ((mI M b3 v1.toNatClampNeg) + 27), .int 8]) (rest := []) ⟨hx, hb, hml, hown, hts⟩ (m_X12_number l D cy tq _ Y _ _ _ _ _) (va_cwS 3 hts (good_S kw_1520 kw_1521 kw_12 kw_1522) rfl rfl rfl (by decide +kernel) ⟨Nat.le_of_ble_eq_true rfl, Nat.le_of_ble_eq_true rfl⟩) (gm_preS hK hW hC hS hA hf) rfl rfl hl.1 rfl (lv_room (Nat.le_of_ble_eq_true rfl)) dX12_firstTime_15 ⟨Nat.le_of_ble_eq_true rfl, Nat.le_of_ble_eq_true rfl⟩) hW hS hA (fun r7 M6 H locs hW hS hf => ?_)
  exact gm_lret hx hb hr hlocks hW hS hf dX12_firstTime_18

abbrev rm_X12_append : Room := { frames := 4, cells := 0, slots := 0, locals := 126 }
def f_X12_append_345 (Y : Ly) (Kn : Int32 → Mm → Prop) (M19 : Mm) (y20 : Int32) : Prop :=
  Kn y20 M19
def f_X12_append_332 (Y : Ly) (v0 : Nat) (Kn : Int32 → Mm → Prop) (M19 : Mm) : Prop :=
  ((mI M19 v0 5) = 0 → (f_X12_append_345 Y Kn M19 1)) ∧ (¬ ((mI M19 v0 5) = 0) → (f_X12_append_345 Y Kn M19 (-3)))
def L_X12_append_203 (Y : Ly) (v0 : Nat) (v1 : Int32) (v2 : Nat) (v3 : Int32) (Kn : Int32 → Mm → Prop) (y11 : Int32) (x31 : Int32) (M32 : Mm) (again203 : Int32 → Mm → Prop) : Prop :=
  (v3 ≤ x31 → (∃ b34 : Nat, mR M32 v0 23 = some b34 ∧ (∃ b35 : Nat, mR M32 v0 27 = some b35 ∧ (yK Y b35 = 102 ∧ (vp_in v1 (yN Y b35) ∧ (f_X12_set Y b34 (mI M32 v0 25) (mJ M32 b35 v1.toNatClampNeg) 8 M32 (fun M38 => (∃ b39 : Nat, mR M38 v0 19 = some b39 ∧ (yK Y b39 = 101 ∧ (vp_in (mI M38 v0 18) (yN Y b39) ∧ (∀ M42 : Mm, M42 = sI M38 b39 (m1 (mI M38 b39) (mI M38 v0 18).toNatClampNeg v1) → (∃ b43 : Nat, mR M42 v0 20 = some b43 ∧ (yK Y b43 = 101 ∧ (vp_in (mI M42 v0 18) (yN Y b43) ∧ (∀ M46 : Mm, M46 = sI M42 b43 (m1 (mI M42 b43) (mI M42 v0 18).toNatClampNeg (mI M42 v0 25)) → (∃ b47 : Nat, mR M46 v0 21 = some b47 ∧ (yK Y b47 = 101 ∧ (vp_in (mI M46 v0 18) (yN Y b47) ∧ (∀ M50 : Mm, M50 = sI M46 b47 (m1 (mI M46 b47) (mI M46 v0 18).toNatClampNeg v3) → (∃ b51 : Nat, mR M50 v0 22 = some b51 ∧ (yK Y b51 = 101 ∧ (vp_in (mI M50 v0 18) (yN Y b51) ∧ (∀ M54 : Mm, M54 = sI M50 b51 (m1 (mI M50 b51) (mI M50 v0 18).toNatClampNeg y11) → (∀ M55 : Mm, M55 = sI M54 v0 (m1 (mI M54 v0) 25 ((mI M54 v0 25) + v3)) → (∃ b56 : Nat, mR M55 v0 27 = some b56 ∧ (yK Y b56 = 102 ∧ (vp_in v1 (yN Y b56) ∧ (f_X12_countOf Y v0 (mI M55 v0 18) M55 (fun r60 M59 => (vp_in v1 (yN Y b56) ∧ (∀ M62 : Mm, M62 = sJ M59 b56 (m1 (mJ M59 b56) v1.toNatClampNeg ((mJ M55 b56 v1.toNatClampNeg) + r60.toInt64)) → (∀ M63 : Mm, M63 = sI M62 v0 (m1 (mI M62 v0) 18 ((mI M62 v0 18) + 1)) → (f_X12_append_332 Y v0 Kn M63))))))))))))))))))))))))))))))))) ∧ (¬ (v3 ≤ x31) → (∃ b64 : Nat, mR M32 v0 23 = some b64 ∧ (yK Y v2 = 101 ∧ (vp_in x31 (yN Y v2) ∧ (yK Y b64 = 101 ∧ (vp_in ((mI M32 v0 25) + x31) (yN Y b64) ∧ (∀ M69 : Mm, M69 = sI M32 b64 (m1 (mI M32 b64) ((mI M32 v0 25) + x31).toNatClampNeg (mI M32 v2 x31.toNatClampNeg)) → (∀ x70 : Int32, x70 = x31 + 1 → (again203 x70 M69)))))))))
def f_X12_append_200 (Y : Ly) (v0 : Nat) (v1 : Int32) (v2 : Nat) (v3 : Int32) (Kn : Int32 → Mm → Prop) (y11 : Int32) (M30 : Mm) : Prop :=
  ∃ n, LOOP2 (L_X12_append_203 Y v0 v1 v2 v3 Kn y11) n 0 M30
def f_X12_append_173 (Y : Ly) (v0 : Nat) (v1 : Int32) (v2 : Nat) (v3 : Int32) (Kn : Int32 → Mm → Prop) (y11 : Int32) (x23 : Int32) (M24 : Mm) : Prop :=
  ∃ b25 : Nat, mR M24 v0 30 = some b25 ∧ (yK Y b25 = 101 ∧ (vp_in x23 (yN Y b25) ∧ (vp_in x23 (yN Y b25) ∧ (∀ M29 : Mm, M29 = sI M24 b25 (m1 (mI M24 b25) x23.toNatClampNeg ((mI M24 b25 x23.toNatClampNeg) + v3)) → ((((mI M29 v0 25) + v3) ≤ 270000 → (f_X12_append_200 Y v0 v1 v2 v3 Kn y11 M29)) ∧ (¬ (((mI M29 v0 25) + v3) ≤ 270000) → (f_X12_tidy Y v0 M29 (fun M72 => (f_X12_append_200 Y v0 v1 v2 v3 Kn y11 M72)))))))))
def f_X12_append_116 (Y : Ly) (v0 : Nat) (v1 : Int32) (v2 : Nat) (v3 : Int32) (Kn : Int32 → Mm → Prop) (x5 : Int32) (y9 : Int32) (y11 : Int32) (M12 : Mm) (y14 : Int32) : Prop :=
  f_X12_touched Y y14 v3 M12 (fun r16 M15 => (f_X12_spend Y v0 (r16 + 1) M15 (fun r18 M17 => ((r18 = 0 → (f_X12_append_332 Y v0 Kn M17)) ∧ (¬ (r18 = 0) → ((¬ y9 = 0 → (f_X12_append_173 Y v0 v1 v2 v3 Kn y11 x5 M17)) ∧ (y9 = 0 → (∃ b74 : Nat, mR M17 v0 28 = some b74 ∧ (yK Y b74 = 101 ∧ (vp_in v1 (yN Y b74) ∧ (∀ x77 : Int32, x77 = (60 * v1) + (mI M17 b74 v1.toNatClampNeg) → (∃ b78 : Nat, mR M17 v0 29 = some b78 ∧ (yK Y b78 = 101 ∧ (vp_in x77 (yN Y b78) ∧ (∀ M81 : Mm, M81 = sI M17 b78 (m1 (mI M17 b78) x77.toNatClampNeg y11) → (∃ b82 : Nat, mR M81 v0 30 = some b82 ∧ (yK Y b82 = 101 ∧ (vp_in x77 (yN Y b82) ∧ (∀ M85 : Mm, M85 = sI M81 b82 (m1 (mI M81 b82) x77.toNatClampNeg 0) → (∃ b86 : Nat, mR M85 v0 28 = some b86 ∧ (yK Y b86 = 101 ∧ (vp_in v1 (yN Y b86) ∧ (vp_in v1 (yN Y b86) ∧ (∀ M90 : Mm, M90 = sI M85 b86 (m1 (mI M85 b86) v1.toNatClampNeg ((mI M85 b86 v1.toNatClampNeg) + 1)) → (f_X12_append_173 Y v0 v1 v2 v3 Kn y11 x77 M90)))))))))))))))))))))))))
def f_X12_append_89 (Y : Ly) (v0 : Nat) (v1 : Int32) (v2 : Nat) (v3 : Int32) (Kn : Int32 → Mm → Prop) (x5 : Int32) (y9 : Int32) (y11 : Int32) (M12 : Mm) : Prop :=
  (0 ≤ y11 → ((y9 = 0 → (f_X12_append_116 Y v0 v1 v2 v3 Kn x5 y9 y11 M12 0)) ∧ (¬ (y9 = 0) → (∃ b92 : Nat, mR M12 v0 30 = some b92 ∧ (yK Y b92 = 101 ∧ (vp_in x5 (yN Y b92) ∧ (f_X12_append_116 Y v0 v1 v2 v3 Kn x5 y9 y11 M12 (mI M12 b92 x5.toNatClampNeg)))))))) ∧ (¬ (0 ≤ y11) → (Kn (-2) M12))
def f_X12_append_49 (Y : Ly) (v0 : Nat) (v1 : Int32) (v2 : Nat) (v3 : Int32) (M : Mm) (Kn : Int32 → Mm → Prop) (x5 : Int32) (y9 : Int32) : Prop :=
  f_X12_mark Y v0 M (fun M10 => ((y9 = 0 → (∃ b96 : Nat, mR M10 v0 28 = some b96 ∧ (yK Y b96 = 101 ∧ (vp_in v1 (yN Y b96) ∧ ((¬ (mI M10 b96 v1.toNatClampNeg) = 60 → (f_X12_placeOf Y v0 M10 (fun r101 M100 => (f_X12_append_89 Y v0 v1 v2 v3 Kn x5 y9 r101 M100)))) ∧ ((mI M10 b96 v1.toNatClampNeg) = 60 → (f_X12_append_89 Y v0 v1 v2 v3 Kn x5 y9 (-1) M10))))))) ∧ (¬ (y9 = 0) → (∃ b102 : Nat, mR M10 v0 29 = some b102 ∧ (yK Y b102 = 101 ∧ (vp_in x5 (yN Y b102) ∧ (f_X12_append_89 Y v0 v1 v2 v3 Kn x5 y9 (mI M10 b102 x5.toNatClampNeg) M10)))))))
def f_X12_append_48 (Y : Ly) (v0 : Nat) (v1 : Int32) (v2 : Nat) (v3 : Int32) (M : Mm) (Kn : Int32 → Mm → Prop) (x5 : Int32) : Prop :=
  f_X12_append_49 Y v0 v1 v2 v3 M Kn x5 0
def f_X12_append (Y : Ly) (v0 : Nat) (v1 : Int32) (v2 : Nat) (v3 : Int32) (M : Mm) (Kn : Int32 → Mm → Prop) : Prop :=
  yK Y v0 = 12 ∧ (∃ b2 : Nat, mR M v0 28 = some b2 ∧ (yK Y b2 = 101 ∧ (vp_in v1 (yN Y b2) ∧ (∀ x5 : Int32, x5 = ((60 * v1) + (mI M b2 v1.toNatClampNeg)) - 1 → (∃ b6 : Nat, mR M v0 28 = some b6 ∧ (yK Y b6 = 101 ∧ (vp_in v1 (yN Y b6) ∧ (((mI M b6 v1.toNatClampNeg) ≤ 0 → (f_X12_append_48 Y v0 v1 v2 v3 M Kn x5)) ∧ (¬ ((mI M b6 v1.toNatClampNeg) ≤ 0) → (∃ b106 : Nat, mR M v0 30 = some b106 ∧ (yK Y b106 = 101 ∧ (vp_in x5 (yN Y b106) ∧ (((1024 * (mI M v0 2)) < ((mI M b106 x5.toNatClampNeg) + v3) → (f_X12_append_48 Y v0 v1 v2 v3 M Kn x5)) ∧ (¬ ((1024 * (mI M v0 2)) < ((mI M b106 x5.toNatClampNeg) + v3)) → (f_X12_append_49 Y v0 v1 v2 v3 M Kn x5 1)))))))))))))))
set_option maxHeartbeats 4000000 in
set_option maxRecDepth 100000 in
theorem m_X12_append (l : Launch) (D : va_G) (cy : Cy) (tq sz : Nat) (Y : Ly) (v0 : Nat) (v1 : Int32) (v2 : Nat) (v3 : Int32) (M : Mm) (Kn : Int32 → Mm → Prop) : Met l yX12_append (Cond.code yX12_append cX12_append 8 (some .int) :: TT) rm_X12_append (PcG D cy tq [.ref v0, .int v1, .ref v2, .int v3] sz Y M (f_X12_append Y v0 v1 v2 v3 M Kn)) (va_Qi Kn (BG D cy (Am Y sz) Y) (Am Y sz)) 0 0 (Am Y sz) := by
  refine Met.ofW (cc := cX12_append) (maxL := 8) (ret := (some .int)) (by decide) rfl ?_
  intro p e s m args below meth c s₁ B hml hv
  obtain ⟨hargs, hsz, hW, hK, hC, hf⟩ := hv
  subst hsz
  have hx := B.exec
  have hb := B.bytes
  have hr := B.returns
  have hts : ∀ w ∈ TT, w.before args s = true := fun w h => atoms_spec (ws := Cond.code yX12_append cX12_append 8 (some .int) :: TT) B.pre w (List.mem_cons_of_mem _ h)
  have hown : s.vm.findClass RX12 = some m.cls := findClass_of_methodNamed B.named
  have hlocks := B.notSynchronized
  replace hW := Wd_self (sz := s.heap.size) hW
  generalize hAe : Am Y s.heap.size = A at hW hC ⊢
  have hA : ∀ q : Nat, s.heap.size ≤ q → A q := fun q h => by rw [← hAe]; exact Or.inr h
  clear hAe
  have hS : va_S A s.heap s.heap [] := va_S.rf
  obtain ⟨ls, hE, hl⟩ := gm_entry m [.ref v0, .int v1, .ref v2, .int v3] (n := 8) hargs (Nat.le_of_ble_eq_true rfl)
  rw [hE]
  have hl : lv_has ls 8 [(0, .ref v0), (1, .int v1), (2, .ref v2), (3, .int v3)] := hl
  show W p l e rm_X12_append s m args below meth c s.heap [] 0 0 (MQ below (va_Qi Kn (BG D cy A Y) A) args s 0 0 A) (F0 m 0 ls [])
  unfold f_X12_append at hf
  refine lv_bipush (v := 60) hx hb dX12_append_0 (by decide +kernel) ?_
  refine lv_iload_n hx hb dX12_append_2 rfl (lv_at hl 1 rfl) ?_
  refine lv_imul hx hb dX12_append_3 ?_
  refine lv_aload_n hx hb dX12_append_4 rfl (lv_at hl 0 rfl) ?_
  obtain ⟨k1, hf⟩ := hf
  obtain ⟨b2, hb2, hf⟩ := hf
  refine gm_getR (C := RX12) (T := TX12) (N := 68) (j := 28) hx hb hts inT_12 hown hK hW k1 (by decide) rfl (by decide) rfl (hts _ kw_1344) rfl dX12_append_5 hb2 ?_
  refine lv_iload_n hx hb dX12_append_8 rfl (lv_at hl 1 rfl) ?_
  obtain ⟨k3, hf⟩ := hf
  obtain ⟨h4, hf⟩ := hf
  refine gm_iald hx hb hK hW k3 h4 dX12_append_9 ?_
  refine lv_iadd hx hb dX12_append_10 ?_
  refine lv_iconst (v := 1) hx hb dX12_append_11 (by decide +kernel) ?_
  refine lv_isub hx hb dX12_append_12 ?_
  refine lv_topi (fun x5 ex5 => ?_)
  replace hf := hf x5 ex5
  refine lv_istore (lv' := [(4, .int x5), (0, .ref v0), (1, .int v1), (2, .ref v2), (3, .int v3)]) hx hb dX12_append_13 hl (by decide) rfl (fun ls hl => ?_)
  refine lv_aload_n hx hb dX12_append_15 rfl (lv_at hl 1 rfl) ?_
  obtain ⟨b6, hb6, hf⟩ := hf
  refine gm_getR (C := RX12) (T := TX12) (N := 68) (j := 28) hx hb hts inT_12 hown hK hW k1 (by decide) rfl (by decide) rfl (hts _ kw_1344) rfl dX12_append_16 hb6 ?_
  refine lv_iload_n hx hb dX12_append_19 rfl (lv_at hl 2 rfl) ?_
  obtain ⟨k7, hf⟩ := hf
  obtain ⟨h8, hf⟩ := hf
  refine gm_iald hx hb hK hW k7 h8 dX12_append_20 ?_
  have j49 : ∀ (y9 : Int32) (H : Heap) (locs : List Loc) (ls : Array Slot), lv_has ls 8 [(0, .ref v0), (1, .int v1), (2, .ref v2), (3, .int v3), (4, .int x5)] → Wd D cy A Y M H → va_S A s.heap H locs → f_X12_append_49 Y v0 v1 v2 v3 M Kn x5 y9 → W p l e rm_X12_append s m args below meth c H locs 0 0 (MQ below (va_Qi Kn (BG D cy A Y) A) args s 0 0 A) (F0 m 49 ls [.int y9]) := by
    intro y9 H locs ls hl hW hS hf
    unfold f_X12_append_49 at hf
    refine lv_istore (lv' := [(5, .int y9), (0, .ref v0), (1, .int v1), (2, .ref v2), (3, .int v3), (4, .int x5)]) hx hb dX12_append_49 hl (by decide) rfl (fun ls hl => ?_)
    refine lv_aload_n hx hb dX12_append_51 rfl (lv_at hl 1 rfl) ?_
    refine gm_cv (va_runV (As := []) (rest := []) ⟨hx, hb, hml, hown, hts⟩ (m_X12_mark l D cy tq _ Y _ _ _) (cwV 0 hts (good_V kw_1599 kw_1600 kw_1847 kw_12 kw_1601) rfl rfl rfl (by decide +kernel) ⟨Nat.le_of_ble_eq_true rfl, Nat.le_of_ble_eq_true rfl⟩) (gm_preV hK hW hC hS hA k1 (by decide) (q := (RX12, TX12, 68)) rfl rfl hf) rfl rfl hl.1 rfl (lv_room (Nat.le_of_ble_eq_true rfl)) dX12_append_52 ⟨Nat.le_of_ble_eq_true rfl, Nat.le_of_ble_eq_true rfl⟩) hW hS hA (fun M10 H locs hW hS hf => ?_)
    refine lv_iload hx hb dX12_append_55 (lv_at hl 0 rfl) ?_
    have j89 : ∀ (y11 : Int32) (M12 : Mm) (H : Heap) (locs : List Loc) (ls : Array Slot), lv_has ls 8 [(0, .ref v0), (1, .int v1), (2, .ref v2), (3, .int v3), (4, .int x5), (5, .int y9)] → Wd D cy A Y M12 H → va_S A s.heap H locs → f_X12_append_89 Y v0 v1 v2 v3 Kn x5 y9 y11 M12 → W p l e rm_X12_append s m args below meth c H locs 0 0 (MQ below (va_Qi Kn (BG D cy A Y) A) args s 0 0 A) (F0 m 89 ls [.int y11]) := by
      intro y11 M12 H locs ls hl hW hS hf
      unfold f_X12_append_89 at hf
      refine lv_istore (lv' := [(6, .int y11), (0, .ref v0), (1, .int v1), (2, .ref v2), (3, .int v3), (4, .int x5), (5, .int y9)]) hx hb dX12_append_89 hl (by decide) rfl (fun ls hl => ?_)
      refine lv_iload hx hb dX12_append_91 (lv_at hl 0 rfl) ?_
      refine lv_if_ge (tgt := 99) hx hb dX12_append_93 (by decide) (fun c13 => ?_) (fun c13 => ?_)
      · replace hf := hf.1 c13
        refine lv_aload_n hx hb dX12_append_99 rfl (lv_at hl 1 rfl) ?_
        refine lv_iload hx hb dX12_append_100 (lv_at hl 6 rfl) ?_
        have j116 : ∀ (y14 : Int32) (H : Heap) (locs : List Loc) (ls : Array Slot), lv_has ls 8 [(0, .ref v0), (1, .int v1), (2, .ref v2), (3, .int v3), (4, .int x5), (5, .int y9), (6, .int y11)] → Wd D cy A Y M12 H → va_S A s.heap H locs → f_X12_append_116 Y v0 v1 v2 v3 Kn x5 y9 y11 M12 y14 → W p l e rm_X12_append s m args below meth c H locs 0 0 (MQ below (va_Qi Kn (BG D cy A Y) A) args s 0 0 A) (F0 m 116 ls [.int y14, .ref v0]) := by
          intro y14 H locs ls hl hW hS hf
          unfold f_X12_append_116 at hf
          refine lv_iload_n hx hb dX12_append_116 rfl (lv_at hl 3 rfl) ?_
          refine gm_ci (va_runS (As := [.int y14, .int v3]) (rest := [.ref v0]) ⟨hx, hb, hml, hown, hts⟩ (m_X12_touched l D cy tq _ Y _ _ _ _) (va_cwS 2 hts (good_S kw_1608 kw_1609 kw_12 kw_1610) rfl rfl rfl (by decide +kernel) ⟨Nat.le_of_ble_eq_true rfl, Nat.le_of_ble_eq_true rfl⟩) (gm_preS hK hW hC hS hA hf) rfl rfl hl.1 rfl (lv_room (Nat.le_of_ble_eq_true rfl)) dX12_append_117 ⟨Nat.le_of_ble_eq_true rfl, Nat.le_of_ble_eq_true rfl⟩) hW hS hA (fun r16 M15 H locs hW hS hf => ?_)
          refine lv_iconst (v := 1) hx hb dX12_append_120 (by decide +kernel) ?_
          refine lv_iadd hx hb dX12_append_121 ?_
          refine gm_ci (va_runV (As := [.int (r16 + 1)]) (rest := []) ⟨hx, hb, hml, hown, hts⟩ (m_X12_spend l D cy tq _ Y _ _ _ _) (cwV 1 hts (good_V kw_1555 kw_1556 kw_1837 kw_12 kw_1557) rfl rfl rfl (by decide +kernel) ⟨Nat.le_of_ble_eq_true rfl, Nat.le_of_ble_eq_true rfl⟩) (gm_preV hK hW hC hS hA k1 (by decide) (q := (RX12, TX12, 68)) rfl rfl hf) rfl rfl hl.1 rfl (lv_room (Nat.le_of_ble_eq_true rfl)) dX12_append_122 ⟨Nat.le_of_ble_eq_true rfl, Nat.le_of_ble_eq_true rfl⟩) hW hS hA (fun r18 M17 H locs hW hS hf => ?_)
          have j332 : ∀ (M19 : Mm) (H : Heap) (locs : List Loc) (ls : Array Slot), lv_has ls 8 [(0, .ref v0)] → Wd D cy A Y M19 H → va_S A s.heap H locs → f_X12_append_332 Y v0 Kn M19 → W p l e rm_X12_append s m args below meth c H locs 0 0 (MQ below (va_Qi Kn (BG D cy A Y) A) args s 0 0 A) (F0 m 332 ls []) := by
            intro M19 H locs ls hl hW hS hf
            unfold f_X12_append_332 at hf
            refine lv_aload_n hx hb dX12_append_332 rfl (lv_at hl 0 rfl) ?_
            refine gm_getI (C := RX12) (T := TX12) (N := 68) (j := 5) hx hb hts inT_12 hown hK hW k1 (by decide) rfl (by decide) rfl (hts _ kw_1321) rfl dX12_append_333 ?_
            have j345 : ∀ (y20 : Int32) (H : Heap) (locs : List Loc) (ls : Array Slot), lv_has ls 8 [] → Wd D cy A Y M19 H → va_S A s.heap H locs → f_X12_append_345 Y Kn M19 y20 → W p l e rm_X12_append s m args below meth c H locs 0 0 (MQ below (va_Qi Kn (BG D cy A Y) A) args s 0 0 A) (F0 m 345 ls [.int y20]) := by
              intro y20 H locs ls hl hW hS hf
              unfold f_X12_append_345 at hf
              exact gm_iret hx hb hr hlocks hW hS hf dX12_append_345
            refine lv_if_eq (tgt := 344) hx hb dX12_append_336 (by decide) (fun c21 => ?_) (fun c21 => ?_)
            · replace hf := hf.1 c21
              refine lv_iconst (v := 1) hx hb dX12_append_344 (by decide +kernel) ?_
              exact j345 _ _ _ _ (lv_sub hl [] rfl) hW hS hf
            · replace hf := hf.2 c21
              refine lv_bipush (v := -3) hx hb dX12_append_339 (by decide +kernel) ?_
              refine lv_goto (tgt := 345) hx hb dX12_append_341 (by decide) ?_
              exact j345 _ _ _ _ (lv_sub hl [] rfl) hW hS hf
          refine lv_if_eq (tgt := 332) hx hb dX12_append_125 (by decide) (fun c22 => ?_) (fun c22 => ?_)
          · replace hf := hf.1 c22
            exact j332 _ _ _ _ (lv_sub hl [0] rfl) hW hS hf
          · replace hf := hf.2 c22
            refine lv_iload hx hb dX12_append_128 (lv_at hl 5 rfl) ?_
            have j173 : ∀ (x23 : Int32) (M24 : Mm) (H : Heap) (locs : List Loc) (ls : Array Slot), lv_has ls 8 [(0, .ref v0), (1, .int v1), (2, .ref v2), (3, .int v3), (4, .int x23), (6, .int y11)] → Wd D cy A Y M24 H → va_S A s.heap H locs → f_X12_append_173 Y v0 v1 v2 v3 Kn y11 x23 M24 → W p l e rm_X12_append s m args below meth c H locs 0 0 (MQ below (va_Qi Kn (BG D cy A Y) A) args s 0 0 A) (F0 m 173 ls []) := by
              intro x23 M24 H locs ls hl hW hS hf
              unfold f_X12_append_173 at hf
              refine lv_aload_n hx hb dX12_append_173 rfl (lv_at hl 0 rfl) ?_
              obtain ⟨b25, hb25, hf⟩ := hf
              refine gm_getR (C := RX12) (T := TX12) (N := 68) (j := 30) hx hb hts inT_12 hown hK hW k1 (by decide) rfl (by decide) rfl (hts _ kw_1346) rfl dX12_append_174 hb25 ?_
              refine lv_iload hx hb dX12_append_177 (lv_at hl 4 rfl) ?_
              refine lv_dup2_11 hx hb dX12_append_179 rfl rfl ?_
              obtain ⟨k26, hf⟩ := hf
              obtain ⟨h27, hf⟩ := hf
              refine gm_iald hx hb hK hW k26 h27 dX12_append_180 ?_
              refine lv_iload_n hx hb dX12_append_181 rfl (lv_at hl 3 rfl) ?_
              refine lv_iadd hx hb dX12_append_182 ?_
              obtain ⟨h28, hf⟩ := hf
              refine gm_iast hx hb hK hW hS k26 h28 dX12_append_183 (fun H locs M29 eM29 hW hS => ?_)
              replace hf := hf M29 eM29
              refine lv_aload_n hx hb dX12_append_184 rfl (lv_at hl 0 rfl) ?_
              refine gm_getI (C := RX12) (T := TX12) (N := 68) (j := 25) hx hb hts inT_12 hown hK hW k1 (by decide) rfl (by decide) rfl (hts _ kw_1341) rfl dX12_append_185 ?_
              refine lv_iload_n hx hb dX12_append_188 rfl (lv_at hl 3 rfl) ?_
              refine lv_iadd hx hb dX12_append_189 ?_
              refine lv_ldcw (v := 270000) hx hb hown (hts _ kw_1611) dX12_append_190 ?_
              have j200 : ∀ (M30 : Mm) (H : Heap) (locs : List Loc) (ls : Array Slot), lv_has ls 8 [(0, .ref v0), (1, .int v1), (2, .ref v2), (3, .int v3), (6, .int y11)] → Wd D cy A Y M30 H → va_S A s.heap H locs → f_X12_append_200 Y v0 v1 v2 v3 Kn y11 M30 → W p l e rm_X12_append s m args below meth c H locs 0 0 (MQ below (va_Qi Kn (BG D cy A Y) A) args s 0 0 A) (F0 m 200 ls []) := by
                intro M30 H locs ls hl hW hS hf
                unfold f_X12_append_200 at hf
                refine lv_iconst (v := 0) hx hb dX12_append_200 (by decide +kernel) ?_
                refine lv_istore (lv' := [(7, .int 0), (0, .ref v0), (1, .int v1), (2, .ref v2), (3, .int v3), (6, .int y11)]) hx hb dX12_append_201 hl (by decide) rfl (fun ls hl => ?_)
                obtain ⟨n203, hf⟩ := hf
                have lp203 : ∀ (n203 : Nat) (x31 : Int32) (M32 : Mm) (H : Heap) (locs : List Loc) (ls : Array Slot), lv_has ls 8 [(0, .ref v0), (1, .int v1), (2, .ref v2), (3, .int v3), (6, .int y11), (7, .int x31)] → Wd D cy A Y M32 H → va_S A s.heap H locs → LOOP2 (L_X12_append_203 Y v0 v1 v2 v3 Kn y11) n203 x31 M32 → W p l e rm_X12_append s m args below meth c H locs 0 0 (MQ below (va_Qi Kn (BG D cy A Y) A) args s 0 0 A) (F0 m 203 ls []) := by
                  intro n203
                  induction n203 with
                  | zero => intro x31 M32 H locs ls hl hW hS hf; exact hf.elim
                  | succ n203 ih203 =>
                    intro x31 M32 H locs ls hl hW hS hf
                    replace hf : L_X12_append_203 Y v0 v1 v2 v3 Kn y11 x31 M32 (LOOP2 (L_X12_append_203 Y v0 v1 v2 v3 Kn y11) n203) := hf
                    unfold L_X12_append_203 at hf
                    refine lv_iload hx hb dX12_append_203 (lv_at hl 5 rfl) ?_
                    refine lv_iload_n hx hb dX12_append_205 rfl (lv_at hl 3 rfl) ?_
                    refine lv_icmp_ge (tgt := 231) hx hb dX12_append_206 (by decide) (fun c33 => ?_) (fun c33 => ?_)
                    · replace hf := hf.1 c33
                      refine lv_aload_n hx hb dX12_append_231 rfl (lv_at hl 0 rfl) ?_
                      obtain ⟨b34, hb34, hf⟩ := hf
                      refine gm_getR (C := RX12) (T := TX12) (N := 68) (j := 23) hx hb hts inT_12 hown hK hW k1 (by decide) rfl (by decide) rfl (hts _ kw_1339) rfl dX12_append_232 hb34 ?_
                      refine lv_aload_n hx hb dX12_append_235 rfl (lv_at hl 0 rfl) ?_
                      refine gm_getI (C := RX12) (T := TX12) (N := 68) (j := 25) hx hb hts inT_12 hown hK hW k1 (by decide) rfl (by decide) rfl (hts _ kw_1341) rfl dX12_append_236 ?_
                      refine lv_aload_n hx hb dX12_append_239 rfl (lv_at hl 0 rfl) ?_
                      obtain ⟨b35, hb35, hf⟩ := hf
                      refine gm_getR (C := RX12) (T := TX12) (N := 68) (j := 27) hx hb hts inT_12 hown hK hW k1 (by decide) rfl (by decide) rfl (hts _ kw_1343) rfl dX12_append_240 hb35 ?_
                      refine lv_iload_n hx hb dX12_append_243 rfl (lv_at hl 1 rfl) ?_
                      obtain ⟨k36, hf⟩ := hf
                      obtain ⟨h37, hf⟩ := hf
                      refine gm_lald hx hb hK hW k36 h37 dX12_append_244 ?_
                      refine lv_bipush (v := 8) hx hb dX12_append_245 (by decide +kernel) ?_
                      refine gm_cv (va_runS (As := [.ref b34, .int (mI M32 v0 25), .long (mJ M32 b35 v1.toNatClampNeg), .int 8]) (rest := []) ⟨hx, hb, hml, hown, hts⟩ (m_X12_set l D cy tq _ Y _ _ _ _ _ _) (va_cwS 4 hts (good_S kw_1510 kw_1511 kw_12 kw_1512) rfl rfl rfl (by decide +kernel) ⟨Nat.le_of_ble_eq_true rfl, Nat.le_of_ble_eq_true rfl⟩) (gm_preS hK hW hC hS hA hf) rfl rfl hl.1 rfl (lv_room (Nat.le_of_ble_eq_true rfl)) dX12_append_247 ⟨Nat.le_of_ble_eq_true rfl, Nat.le_of_ble_eq_true rfl⟩) hW hS hA (fun M38 H locs hW hS hf => ?_)
                      refine lv_aload_n hx hb dX12_append_250 rfl (lv_at hl 0 rfl) ?_
                      obtain ⟨b39, hb39, hf⟩ := hf
                      refine gm_getR (C := RX12) (T := TX12) (N := 68) (j := 19) hx hb hts inT_12 hown hK hW k1 (by decide) rfl (by decide) rfl (hts _ kw_1335) rfl dX12_append_251 hb39 ?_
                      refine lv_aload_n hx hb dX12_append_254 rfl (lv_at hl 0 rfl) ?_
                      refine gm_getI (C := RX12) (T := TX12) (N := 68) (j := 18) hx hb hts inT_12 hown hK hW k1 (by decide) rfl (by decide) rfl (hts _ kw_1334) rfl dX12_append_255 ?_
                      refine lv_iload_n hx hb dX12_append_258 rfl (lv_at hl 1 rfl) ?_
                      obtain ⟨k40, hf⟩ := hf
                      obtain ⟨h41, hf⟩ := hf
                      refine gm_iast hx hb hK hW hS k40 h41 dX12_append_259 (fun H locs M42 eM42 hW hS => ?_)
                      replace hf := hf M42 eM42
                      refine lv_aload_n hx hb dX12_append_260 rfl (lv_at hl 0 rfl) ?_
                      obtain ⟨b43, hb43, hf⟩ := hf
                      refine gm_getR (C := RX12) (T := TX12) (N := 68) (j := 20) hx hb hts inT_12 hown hK hW k1 (by decide) rfl (by decide) rfl (hts _ kw_1336) rfl dX12_append_261 hb43 ?_
                      refine lv_aload_n hx hb dX12_append_264 rfl (lv_at hl 0 rfl) ?_
                      refine gm_getI (C := RX12) (T := TX12) (N := 68) (j := 18) hx hb hts inT_12 hown hK hW k1 (by decide) rfl (by decide) rfl (hts _ kw_1334) rfl dX12_append_265 ?_
                      refine lv_aload_n hx hb dX12_append_268 rfl (lv_at hl 0 rfl) ?_
                      refine gm_getI (C := RX12) (T := TX12) (N := 68) (j := 25) hx hb hts inT_12 hown hK hW k1 (by decide) rfl (by decide) rfl (hts _ kw_1341) rfl dX12_append_269 ?_
                      obtain ⟨k44, hf⟩ := hf
                      obtain ⟨h45, hf⟩ := hf
                      refine gm_iast hx hb hK hW hS k44 h45 dX12_append_272 (fun H locs M46 eM46 hW hS => ?_)
                      replace hf := hf M46 eM46
                      refine lv_aload_n hx hb dX12_append_273 rfl (lv_at hl 0 rfl) ?_
                      obtain ⟨b47, hb47, hf⟩ := hf
                      refine gm_getR (C := RX12) (T := TX12) (N := 68) (j := 21) hx hb hts inT_12 hown hK hW k1 (by decide) rfl (by decide) rfl (hts _ kw_1337) rfl dX12_append_274 hb47 ?_
                      refine lv_aload_n hx hb dX12_append_277 rfl (lv_at hl 0 rfl) ?_
                      refine gm_getI (C := RX12) (T := TX12) (N := 68) (j := 18) hx hb hts inT_12 hown hK hW k1 (by decide) rfl (by decide) rfl (hts _ kw_1334) rfl dX12_append_278 ?_
                      refine lv_iload_n hx hb dX12_append_281 rfl (lv_at hl 3 rfl) ?_
                      obtain ⟨k48, hf⟩ := hf
                      obtain ⟨h49, hf⟩ := hf
                      refine gm_iast hx hb hK hW hS k48 h49 dX12_append_282 (fun H locs M50 eM50 hW hS => ?_)
                      replace hf := hf M50 eM50
                      refine lv_aload_n hx hb dX12_append_283 rfl (lv_at hl 0 rfl) ?_
                      obtain ⟨b51, hb51, hf⟩ := hf
                      refine gm_getR (C := RX12) (T := TX12) (N := 68) (j := 22) hx hb hts inT_12 hown hK hW k1 (by decide) rfl (by decide) rfl (hts _ kw_1338) rfl dX12_append_284 hb51 ?_
                      refine lv_aload_n hx hb dX12_append_287 rfl (lv_at hl 0 rfl) ?_
                      refine gm_getI (C := RX12) (T := TX12) (N := 68) (j := 18) hx hb hts inT_12 hown hK hW k1 (by decide) rfl (by decide) rfl (hts _ kw_1334) rfl dX12_append_288 ?_
                      refine lv_iload hx hb dX12_append_291 (lv_at hl 4 rfl) ?_
                      obtain ⟨k52, hf⟩ := hf
                      obtain ⟨h53, hf⟩ := hf
                      refine gm_iast hx hb hK hW hS k52 h53 dX12_append_293 (fun H locs M54 eM54 hW hS => ?_)
                      replace hf := hf M54 eM54
                      refine lv_aload_n hx hb dX12_append_294 rfl (lv_at hl 0 rfl) ?_
                      refine lv_dup hx hb dX12_append_295 rfl ?_
                      refine gm_getI (C := RX12) (T := TX12) (N := 68) (j := 25) hx hb hts inT_12 hown hK hW k1 (by decide) rfl (by decide) rfl (hts _ kw_1341) rfl dX12_append_296 ?_
                      refine lv_iload_n hx hb dX12_append_299 rfl (lv_at hl 3 rfl) ?_
                      refine lv_iadd hx hb dX12_append_300 ?_
                      refine gm_putI (C := RX12) (T := TX12) (N := 68) (j := 25) hx hb hts inT_12 tyX12 tyX12_ok nmX12 hown hK hW hS k1 (by decide) rfl (by decide) rfl (hts _ kw_1341) rfl rfl rfl rfl dX12_append_301 (fun H locs M55 eM55 hW hS => ?_)
                      replace hf := hf M55 eM55
                      refine lv_aload_n hx hb dX12_append_304 rfl (lv_at hl 0 rfl) ?_
                      obtain ⟨b56, hb56, hf⟩ := hf
                      refine gm_getR (C := RX12) (T := TX12) (N := 68) (j := 27) hx hb hts inT_12 hown hK hW k1 (by decide) rfl (by decide) rfl (hts _ kw_1343) rfl dX12_append_305 hb56 ?_
                      refine lv_iload_n hx hb dX12_append_308 rfl (lv_at hl 1 rfl) ?_
                      refine lv_dup2_11 hx hb dX12_append_309 rfl rfl ?_
                      obtain ⟨k57, hf⟩ := hf
                      obtain ⟨h58, hf⟩ := hf
                      refine gm_lald hx hb hK hW k57 h58 dX12_append_310 ?_
                      refine lv_aload_n hx hb dX12_append_311 rfl (lv_at hl 0 rfl) ?_
                      refine lv_aload_n hx hb dX12_append_312 rfl (lv_at hl 0 rfl) ?_
                      refine gm_getI (C := RX12) (T := TX12) (N := 68) (j := 18) hx hb hts inT_12 hown hK hW k1 (by decide) rfl (by decide) rfl (hts _ kw_1334) rfl dX12_append_313 ?_
                      refine gm_ci (va_runV (As := [.int (mI M55 v0 18)]) (rest := [.long (mJ M55 b56 v1.toNatClampNeg), .int v1, .ref b56]) ⟨hx, hb, hml, hown, hts⟩ (m_X12_countOf l D cy tq _ Y _ _ _ _) (cwV 1 hts (good_V kw_1615 kw_1616 kw_1851 kw_12 kw_1617) rfl rfl rfl (by decide +kernel) ⟨Nat.le_of_ble_eq_true rfl, Nat.le_of_ble_eq_true rfl⟩) (gm_preV hK hW hC hS hA k1 (by decide) (q := (RX12, TX12, 68)) rfl rfl hf) rfl rfl hl.1 rfl (lv_room (Nat.le_of_ble_eq_true rfl)) dX12_append_316 ⟨Nat.le_of_ble_eq_true rfl, Nat.le_of_ble_eq_true rfl⟩) hW hS hA (fun r60 M59 H locs hW hS hf => ?_)
                      refine lv_i2l hx hb dX12_append_319 rfl ?_
                      refine lv_ladd hx hb dX12_append_320 ?_
                      obtain ⟨h61, hf⟩ := hf
                      refine gm_last hx hb hK hW hS k57 h61 dX12_append_321 (fun H locs M62 eM62 hW hS => ?_)
                      replace hf := hf M62 eM62
                      refine lv_aload_n hx hb dX12_append_322 rfl (lv_at hl 0 rfl) ?_
                      refine lv_dup hx hb dX12_append_323 rfl ?_
                      refine gm_getI (C := RX12) (T := TX12) (N := 68) (j := 18) hx hb hts inT_12 hown hK hW k1 (by decide) rfl (by decide) rfl (hts _ kw_1334) rfl dX12_append_324 ?_
                      refine lv_iconst (v := 1) hx hb dX12_append_327 (by decide +kernel) ?_
                      refine lv_iadd hx hb dX12_append_328 ?_
                      refine gm_putI (C := RX12) (T := TX12) (N := 68) (j := 18) hx hb hts inT_12 tyX12 tyX12_ok nmX12 hown hK hW hS k1 (by decide) rfl (by decide) rfl (hts _ kw_1334) rfl rfl rfl rfl dX12_append_329 (fun H locs M63 eM63 hW hS => ?_)
                      replace hf := hf M63 eM63
                      exact j332 _ _ _ _ (lv_sub hl [0] rfl) hW hS hf
                    · replace hf := hf.2 c33
                      refine lv_aload_n hx hb dX12_append_209 rfl (lv_at hl 0 rfl) ?_
                      obtain ⟨b64, hb64, hf⟩ := hf
                      refine gm_getR (C := RX12) (T := TX12) (N := 68) (j := 23) hx hb hts inT_12 hown hK hW k1 (by decide) rfl (by decide) rfl (hts _ kw_1339) rfl dX12_append_210 hb64 ?_
                      refine lv_aload_n hx hb dX12_append_213 rfl (lv_at hl 0 rfl) ?_
                      refine gm_getI (C := RX12) (T := TX12) (N := 68) (j := 25) hx hb hts inT_12 hown hK hW k1 (by decide) rfl (by decide) rfl (hts _ kw_1341) rfl dX12_append_214 ?_
                      refine lv_iload hx hb dX12_append_217 (lv_at hl 5 rfl) ?_
                      refine lv_iadd hx hb dX12_append_219 ?_
                      refine lv_aload_n hx hb dX12_append_220 rfl (lv_at hl 2 rfl) ?_
                      refine lv_iload hx hb dX12_append_221 (lv_at hl 5 rfl) ?_
                      obtain ⟨k65, hf⟩ := hf
                      obtain ⟨h66, hf⟩ := hf
                      refine gm_iald hx hb hK hW k65 h66 dX12_append_223 ?_
                      obtain ⟨k67, hf⟩ := hf
                      obtain ⟨h68, hf⟩ := hf
                      refine gm_iast hx hb hK hW hS k67 h68 dX12_append_224 (fun H locs M69 eM69 hW hS => ?_)
                      replace hf := hf M69 eM69
                      obtain ⟨x70, ex70⟩ : ∃ y : Int32, y = x31 + 1 := ⟨_, rfl⟩
                      replace hf := hf x70 ex70
                      refine lv_iinc (v := x70) (lv' := [(7, .int x70), (0, .ref v0), (1, .int v1), (2, .ref v2), (3, .int v3), (6, .int y11)]) hx hb dX12_append_225 hl (k := 5) rfl (by rw [ex70]; rfl) (by decide) rfl (fun ls hl => ?_)
                      refine lv_goto (tgt := 203) hx hb dX12_append_228 (by decide) ?_
                      exact ih203 _ _ _ _ _ (lv_sub hl [1, 2, 3, 4, 5, 0] rfl) hW hS hf
                exact lp203 n203 _ _ _ _ _ (lv_sub hl [1, 2, 3, 4, 5, 0] rfl) hW hS hf
              refine lv_icmp_le (tgt := 200) hx hb dX12_append_193 (by decide) (fun c71 => ?_) (fun c71 => ?_)
              · replace hf := hf.1 c71
                exact j200 _ _ _ _ (lv_sub hl [0, 1, 2, 3, 5] rfl) hW hS hf
              · replace hf := hf.2 c71
                refine lv_aload_n hx hb dX12_append_196 rfl (lv_at hl 0 rfl) ?_
                refine gm_cv (va_runV (As := []) (rest := []) ⟨hx, hb, hml, hown, hts⟩ (m_X12_tidy l D cy tq _ Y _ _ _) (cwV 0 hts (good_V kw_1612 kw_1613 kw_1850 kw_12 kw_1614) rfl rfl rfl (by decide +kernel) ⟨Nat.le_of_ble_eq_true rfl, Nat.le_of_ble_eq_true rfl⟩) (gm_preV hK hW hC hS hA k1 (by decide) (q := (RX12, TX12, 68)) rfl rfl hf) rfl rfl hl.1 rfl (lv_room (Nat.le_of_ble_eq_true rfl)) dX12_append_197 ⟨Nat.le_of_ble_eq_true rfl, Nat.le_of_ble_eq_true rfl⟩) hW hS hA (fun M72 H locs hW hS hf => ?_)
                exact j200 _ _ _ _ (lv_sub hl [0, 1, 2, 3, 5] rfl) hW hS hf
            refine lv_if_ne (tgt := 173) hx hb dX12_append_130 (by decide) (fun c73 => ?_) (fun c73 => ?_)
            · replace hf := hf.1 c73
              exact j173 _ _ _ _ _ (lv_sub hl [0, 1, 2, 3, 4, 6] rfl) hW hS hf
            · replace hf := hf.2 c73
              refine lv_bipush (v := 60) hx hb dX12_append_133 (by decide +kernel) ?_
              refine lv_iload_n hx hb dX12_append_135 rfl (lv_at hl 1 rfl) ?_
              refine lv_imul hx hb dX12_append_136 ?_
              refine lv_aload_n hx hb dX12_append_137 rfl (lv_at hl 0 rfl) ?_
              obtain ⟨b74, hb74, hf⟩ := hf
              refine gm_getR (C := RX12) (T := TX12) (N := 68) (j := 28) hx hb hts inT_12 hown hK hW k1 (by decide) rfl (by decide) rfl (hts _ kw_1344) rfl dX12_append_138 hb74 ?_
              refine lv_iload_n hx hb dX12_append_141 rfl (lv_at hl 1 rfl) ?_
              obtain ⟨k75, hf⟩ := hf
              obtain ⟨h76, hf⟩ := hf
              refine gm_iald hx hb hK hW k75 h76 dX12_append_142 ?_
              refine lv_iadd hx hb dX12_append_143 ?_
              refine lv_topi (fun x77 ex77 => ?_)
              replace hf := hf x77 ex77
              refine lv_istore (lv' := [(4, .int x77), (0, .ref v0), (1, .int v1), (2, .ref v2), (3, .int v3), (5, .int y9), (6, .int y11)]) hx hb dX12_append_144 hl (by decide) rfl (fun ls hl => ?_)
              refine lv_aload_n hx hb dX12_append_146 rfl (lv_at hl 1 rfl) ?_
              obtain ⟨b78, hb78, hf⟩ := hf
              refine gm_getR (C := RX12) (T := TX12) (N := 68) (j := 29) hx hb hts inT_12 hown hK hW k1 (by decide) rfl (by decide) rfl (hts _ kw_1345) rfl dX12_append_147 hb78 ?_
              refine lv_iload hx hb dX12_append_150 (lv_at hl 0 rfl) ?_
              refine lv_iload hx hb dX12_append_152 (lv_at hl 6 rfl) ?_
              obtain ⟨k79, hf⟩ := hf
              obtain ⟨h80, hf⟩ := hf
              refine gm_iast hx hb hK hW hS k79 h80 dX12_append_154 (fun H locs M81 eM81 hW hS => ?_)
              replace hf := hf M81 eM81
              refine lv_aload_n hx hb dX12_append_155 rfl (lv_at hl 1 rfl) ?_
              obtain ⟨b82, hb82, hf⟩ := hf
              refine gm_getR (C := RX12) (T := TX12) (N := 68) (j := 30) hx hb hts inT_12 hown hK hW k1 (by decide) rfl (by decide) rfl (hts _ kw_1346) rfl dX12_append_156 hb82 ?_
              refine lv_iload hx hb dX12_append_159 (lv_at hl 0 rfl) ?_
              refine lv_iconst (v := 0) hx hb dX12_append_161 (by decide +kernel) ?_
              obtain ⟨k83, hf⟩ := hf
              obtain ⟨h84, hf⟩ := hf
              refine gm_iast hx hb hK hW hS k83 h84 dX12_append_162 (fun H locs M85 eM85 hW hS => ?_)
              replace hf := hf M85 eM85
              refine lv_aload_n hx hb dX12_append_163 rfl (lv_at hl 1 rfl) ?_
              obtain ⟨b86, hb86, hf⟩ := hf
              refine gm_getR (C := RX12) (T := TX12) (N := 68) (j := 28) hx hb hts inT_12 hown hK hW k1 (by decide) rfl (by decide) rfl (hts _ kw_1344) rfl dX12_append_164 hb86 ?_
              refine lv_iload_n hx hb dX12_append_167 rfl (lv_at hl 2 rfl) ?_
              refine lv_dup2_11 hx hb dX12_append_168 rfl rfl ?_
              obtain ⟨k87, hf⟩ := hf
              obtain ⟨h88, hf⟩ := hf
              refine gm_iald hx hb hK hW k87 h88 dX12_append_169 ?_
              refine lv_iconst (v := 1) hx hb dX12_append_170 (by decide +kernel) ?_
              refine lv_iadd hx hb dX12_append_171 ?_
              obtain ⟨h89, hf⟩ := hf
              refine gm_iast hx hb hK hW hS k87 h89 dX12_append_172 (fun H locs M90 eM90 hW hS => ?_)
              replace hf := hf M90 eM90
              exact j173 _ _ _ _ _ (lv_sub hl [1, 2, 3, 4, 0, 6] rfl) hW hS hf
        refine lv_if_eq (tgt := 115) hx hb dX12_append_102 (by decide) (fun c91 => ?_) (fun c91 => ?_)
        · replace hf := hf.1 c91
          refine lv_iconst (v := 0) hx hb dX12_append_115 (by decide +kernel) ?_
          exact j116 _ _ _ _ (lv_sub hl [1, 2, 3, 4, 5, 6, 0] rfl) hW hS hf
        · replace hf := hf.2 c91
          refine lv_aload_n hx hb dX12_append_105 rfl (lv_at hl 1 rfl) ?_
          obtain ⟨b92, hb92, hf⟩ := hf
          refine gm_getR (C := RX12) (T := TX12) (N := 68) (j := 30) hx hb hts inT_12 hown hK hW k1 (by decide) rfl (by decide) rfl (hts _ kw_1346) rfl dX12_append_106 hb92 ?_
          refine lv_iload hx hb dX12_append_109 (lv_at hl 5 rfl) ?_
          obtain ⟨k93, hf⟩ := hf
          obtain ⟨h94, hf⟩ := hf
          refine gm_iald hx hb hK hW k93 h94 dX12_append_111 ?_
          refine lv_goto (tgt := 116) hx hb dX12_append_112 (by decide) ?_
          exact j116 _ _ _ _ (lv_sub hl [1, 2, 3, 4, 5, 6, 0] rfl) hW hS hf
      · replace hf := hf.2 c13
        refine lv_bipush (v := -2) hx hb dX12_append_96 (by decide +kernel) ?_
        exact gm_iret hx hb hr hlocks hW hS hf dX12_append_98
    refine lv_if_eq (tgt := 70) hx hb dX12_append_57 (by decide) (fun c95 => ?_) (fun c95 => ?_)
    · replace hf := hf.1 c95
      refine lv_aload_n hx hb dX12_append_70 rfl (lv_at hl 1 rfl) ?_
      obtain ⟨b96, hb96, hf⟩ := hf
      refine gm_getR (C := RX12) (T := TX12) (N := 68) (j := 28) hx hb hts inT_12 hown hK hW k1 (by decide) rfl (by decide) rfl (hts _ kw_1344) rfl dX12_append_71 hb96 ?_
      refine lv_iload_n hx hb dX12_append_74 rfl (lv_at hl 2 rfl) ?_
      obtain ⟨k97, hf⟩ := hf
      obtain ⟨h98, hf⟩ := hf
      refine gm_iald hx hb hK hW k97 h98 dX12_append_75 ?_
      refine lv_bipush (v := 60) hx hb dX12_append_76 (by decide +kernel) ?_
      refine lv_icmp_ne (tgt := 85) hx hb dX12_append_78 (by decide) (fun c99 => ?_) (fun c99 => ?_)
      · replace hf := hf.1 c99
        refine lv_aload_n hx hb dX12_append_85 rfl (lv_at hl 1 rfl) ?_
        refine gm_ci (va_runV (As := []) (rest := []) ⟨hx, hb, hml, hown, hts⟩ (m_X12_placeOf l D cy tq _ Y _ _ _) (cwV 0 hts (good_V kw_1605 kw_1606 kw_1849 kw_12 kw_1607) rfl rfl rfl (by decide +kernel) ⟨Nat.le_of_ble_eq_true rfl, Nat.le_of_ble_eq_true rfl⟩) (gm_preV hK hW hC hS hA k1 (by decide) (q := (RX12, TX12, 68)) rfl rfl hf) rfl rfl hl.1 rfl (lv_room (Nat.le_of_ble_eq_true rfl)) dX12_append_86 ⟨Nat.le_of_ble_eq_true rfl, Nat.le_of_ble_eq_true rfl⟩) hW hS hA (fun r101 M100 H locs hW hS hf => ?_)
        exact j89 _ _ _ _ _ (lv_sub hl [1, 2, 3, 4, 5, 0] rfl) hW hS hf
      · replace hf := hf.2 c99
        refine lv_iconst (v := -1) hx hb dX12_append_81 (by decide +kernel) ?_
        refine lv_goto (tgt := 89) hx hb dX12_append_82 (by decide) ?_
        exact j89 _ _ _ _ _ (lv_sub hl [1, 2, 3, 4, 5, 0] rfl) hW hS hf
    · replace hf := hf.2 c95
      refine lv_aload_n hx hb dX12_append_60 rfl (lv_at hl 1 rfl) ?_
      obtain ⟨b102, hb102, hf⟩ := hf
      refine gm_getR (C := RX12) (T := TX12) (N := 68) (j := 29) hx hb hts inT_12 hown hK hW k1 (by decide) rfl (by decide) rfl (hts _ kw_1345) rfl dX12_append_61 hb102 ?_
      refine lv_iload hx hb dX12_append_64 (lv_at hl 5 rfl) ?_
      obtain ⟨k103, hf⟩ := hf
      obtain ⟨h104, hf⟩ := hf
      refine gm_iald hx hb hK hW k103 h104 dX12_append_66 ?_
      refine lv_goto (tgt := 89) hx hb dX12_append_67 (by decide) ?_
      exact j89 _ _ _ _ _ (lv_sub hl [1, 2, 3, 4, 5, 0] rfl) hW hS hf
  have j48 : ∀ (H : Heap) (locs : List Loc) (ls : Array Slot), lv_has ls 8 [(0, .ref v0), (1, .int v1), (2, .ref v2), (3, .int v3), (4, .int x5)] → Wd D cy A Y M H → va_S A s.heap H locs → f_X12_append_48 Y v0 v1 v2 v3 M Kn x5  → W p l e rm_X12_append s m args below meth c H locs 0 0 (MQ below (va_Qi Kn (BG D cy A Y) A) args s 0 0 A) (F0 m 48 ls []) := by
    intro  H locs ls hl hW hS hf
    unfold f_X12_append_48 at hf
    refine lv_iconst (v := 0) hx hb dX12_append_48 (by decide +kernel) ?_
    exact j49 _ _ _ _ (lv_sub hl [0, 1, 2, 3, 4] rfl) hW hS hf
  refine lv_if_le (tgt := 48) hx hb dX12_append_21 (by decide) (fun c105 => ?_) (fun c105 => ?_)
  · replace hf := hf.1 c105
    exact j48  _ _ _ (lv_sub hl [1, 2, 3, 4, 0] rfl) hW hS hf
  · replace hf := hf.2 c105
    refine lv_aload_n hx hb dX12_append_24 rfl (lv_at hl 1 rfl) ?_
    obtain ⟨b106, hb106, hf⟩ := hf
    refine gm_getR (C := RX12) (T := TX12) (N := 68) (j := 30) hx hb hts inT_12 hown hK hW k1 (by decide) rfl (by decide) rfl (hts _ kw_1346) rfl dX12_append_25 hb106 ?_
    refine lv_iload hx hb dX12_append_28 (lv_at hl 0 rfl) ?_
    obtain ⟨k107, hf⟩ := hf
    obtain ⟨h108, hf⟩ := hf
    refine gm_iald hx hb hK hW k107 h108 dX12_append_30 ?_
    refine lv_iload_n hx hb dX12_append_31 rfl (lv_at hl 4 rfl) ?_
    refine lv_iadd hx hb dX12_append_32 ?_
    refine lv_sipush (v := 1024) hx hb dX12_append_33 (by decide +kernel) ?_
    refine lv_aload_n hx hb dX12_append_36 rfl (lv_at hl 1 rfl) ?_
    refine gm_getI (C := RX12) (T := TX12) (N := 68) (j := 2) hx hb hts inT_12 hown hK hW k1 (by decide) rfl (by decide) rfl (hts _ kw_1318) rfl dX12_append_37 ?_
    refine lv_imul hx hb dX12_append_40 ?_
    refine lv_icmp_gt (tgt := 48) hx hb dX12_append_41 (by decide) (fun c109 => ?_) (fun c109 => ?_)
    · replace hf := hf.1 c109
      exact j48  _ _ _ (lv_sub hl [1, 2, 3, 4, 0] rfl) hW hS hf
    · replace hf := hf.2 c109
      refine lv_iconst (v := 1) hx hb dX12_append_44 (by decide +kernel) ?_
      refine lv_goto (tgt := 49) hx hb dX12_append_45 (by decide) ?_
      exact j49 _ _ _ _ (lv_sub hl [1, 2, 3, 4, 0] rfl) hW hS hf

abbrev rm_X12_knownOne : Room := { frames := 4, cells := 0, slots := 0, locals := 126 }
def f_X12_knownOne_68 (Y : Ly) (Kn : Int32 → Mm → Prop) (M5 : Mm) : Prop :=
  Kn (-1) M5
def f_X12_knownOne_62 (Y : Ly) (x4 : Int32) (again12 : Int32 → Int32 → Mm → Prop) (x12 : Int32) (M13 : Mm) : Prop :=
  ∀ x14 : Int32, x14 = x4 + (-1) → (again12 x12 x14 M13)
def L_X12_knownOne_12 (Y : Ly) (v0 : Nat) (v1 : Int32) (v2 : Int64) (v4 : Int32) (Kn : Int32 → Mm → Prop) (x3 : Int32) (x4 : Int32) (M5 : Mm) (again12 : Int32 → Int32 → Mm → Prop) : Prop :=
  (x4 < 0 → (f_X12_knownOne_68 Y Kn M5)) ∧ (¬ (x4 < 0) → ((5 ≤ v4 → (f_X12_knownOne_68 Y Kn M5)) ∧ (¬ (5 ≤ v4) → ((v2 < 0 → (f_X12_knownOne_68 Y Kn M5)) ∧ (¬ (v2 < 0) → (∃ b9 : Nat, mR M5 v0 19 = some b9 ∧ (yK Y b9 = 101 ∧ (vp_in x4 (yN Y b9) ∧ ((¬ (mI M5 b9 x4.toNatClampNeg) = v1 → (f_X12_knownOne_62 Y x4 again12 x3 M5)) ∧ ((mI M5 b9 x4.toNatClampNeg) = v1 → (f_X12_producerOf Y v0 x4 M5 (fun r17 M16 => ((¬ r17 = v2 → (f_X12_knownOne_62 Y x4 again12 x3 M16)) ∧ (r17 = v2 → ((¬ x3 = 0 → (∀ x20 : Int32, x20 = x3 + (-1) → (f_X12_knownOne_62 Y x4 again12 x20 M16))) ∧ (x3 = 0 → (Kn x4 M16)))))))))))))))))
def f_X12_knownOne (Y : Ly) (v0 : Nat) (v1 : Int32) (v2 : Int64) (v4 : Int32) (M : Mm) (Kn : Int32 → Mm → Prop) : Prop :=
  yK Y v0 = 12 ∧ (∀ x2 : Int32, x2 = (mI M v0 18) - 1 → (∃ n, LOOP3 (L_X12_knownOne_12 Y v0 v1 v2 v4 Kn) n v4 x2 M))
set_option maxHeartbeats 4000000 in
set_option maxRecDepth 100000 in
theorem m_X12_knownOne (l : Launch) (D : va_G) (cy : Cy) (tq sz : Nat) (Y : Ly) (v0 : Nat) (v1 : Int32) (v2 : Int64) (v4 : Int32) (M : Mm) (Kn : Int32 → Mm → Prop) : Met l yX12_knownOne (Cond.code yX12_knownOne cX12_knownOne 7 (some .int) :: TT) rm_X12_knownOne (PcG D cy tq [.ref v0, .int v1, .long v2, .int v4] sz Y M (f_X12_knownOne Y v0 v1 v2 v4 M Kn)) (va_Qi Kn (BG D cy (Am Y sz) Y) (Am Y sz)) 0 0 (Am Y sz) := by
  refine Met.ofW (cc := cX12_knownOne) (maxL := 7) (ret := (some .int)) (by decide) rfl ?_
  intro p e s m args below meth c s₁ B hml hv
  obtain ⟨hargs, hsz, hW, hK, hC, hf⟩ := hv
  subst hsz
  have hx := B.exec
  have hb := B.bytes
  have hr := B.returns
  have hts : ∀ w ∈ TT, w.before args s = true := fun w h => atoms_spec (ws := Cond.code yX12_knownOne cX12_knownOne 7 (some .int) :: TT) B.pre w (List.mem_cons_of_mem _ h)
  have hown : s.vm.findClass RX12 = some m.cls := findClass_of_methodNamed B.named
  have hlocks := B.notSynchronized
  replace hW := Wd_self (sz := s.heap.size) hW
  generalize hAe : Am Y s.heap.size = A at hW hC ⊢
  have hA : ∀ q : Nat, s.heap.size ≤ q → A q := fun q h => by rw [← hAe]; exact Or.inr h
  clear hAe
  have hS : va_S A s.heap s.heap [] := va_S.rf
  obtain ⟨ls, hE, hl⟩ := gm_entry m [.ref v0, .int v1, .long v2, .int v4] (n := 7) hargs (Nat.le_of_ble_eq_true rfl)
  rw [hE]
  have hl : lv_has ls 7 [(0, .ref v0), (1, .int v1), (2, .long v2), (4, .int v4)] := hl
  show W p l e rm_X12_knownOne s m args below meth c s.heap [] 0 0 (MQ below (va_Qi Kn (BG D cy A Y) A) args s 0 0 A) (F0 m 0 ls [])
  unfold f_X12_knownOne at hf
  refine lv_iload hx hb dX12_knownOne_0 (lv_at hl 3 rfl) ?_
  refine lv_istore (lv' := [(5, .int v4), (0, .ref v0), (1, .int v1), (2, .long v2), (4, .int v4)]) hx hb dX12_knownOne_2 hl (by decide) rfl (fun ls hl => ?_)
  refine lv_aload_n hx hb dX12_knownOne_4 rfl (lv_at hl 1 rfl) ?_
  obtain ⟨k1, hf⟩ := hf
  refine gm_getI (C := RX12) (T := TX12) (N := 68) (j := 18) hx hb hts inT_12 hown hK hW k1 (by decide) rfl (by decide) rfl (hts _ kw_1334) rfl dX12_knownOne_5 ?_
  refine lv_iconst (v := 1) hx hb dX12_knownOne_8 (by decide +kernel) ?_
  refine lv_isub hx hb dX12_knownOne_9 ?_
  refine lv_topi (fun x2 ex2 => ?_)
  replace hf := hf x2 ex2
  refine lv_istore (lv' := [(6, .int x2), (5, .int v4), (0, .ref v0), (1, .int v1), (2, .long v2), (4, .int v4)]) hx hb dX12_knownOne_10 hl (by decide) rfl (fun ls hl => ?_)
  obtain ⟨n12, hf⟩ := hf
  have lp12 : ∀ (n12 : Nat) (x3 : Int32) (x4 : Int32) (M5 : Mm) (H : Heap) (locs : List Loc) (ls : Array Slot), lv_has ls 7 [(0, .ref v0), (1, .int v1), (2, .long v2), (4, .int v4), (5, .int x3), (6, .int x4)] → Wd D cy A Y M5 H → va_S A s.heap H locs → LOOP3 (L_X12_knownOne_12 Y v0 v1 v2 v4 Kn) n12 x3 x4 M5 → W p l e rm_X12_knownOne s m args below meth c H locs 0 0 (MQ below (va_Qi Kn (BG D cy A Y) A) args s 0 0 A) (F0 m 12 ls []) := by
    intro n12
    induction n12 with
    | zero => intro x3 x4 M5 H locs ls hl hW hS hf; exact hf.elim
    | succ n12 ih12 =>
      intro x3 x4 M5 H locs ls hl hW hS hf
      replace hf : L_X12_knownOne_12 Y v0 v1 v2 v4 Kn x3 x4 M5 (LOOP3 (L_X12_knownOne_12 Y v0 v1 v2 v4 Kn) n12) := hf
      unfold L_X12_knownOne_12 at hf
      refine lv_iload hx hb dX12_knownOne_12 (lv_at hl 5 rfl) ?_
      have j68 : ∀ (H : Heap) (locs : List Loc) (ls : Array Slot), lv_has ls 7 [] → Wd D cy A Y M5 H → va_S A s.heap H locs → f_X12_knownOne_68 Y Kn M5  → W p l e rm_X12_knownOne s m args below meth c H locs 0 0 (MQ below (va_Qi Kn (BG D cy A Y) A) args s 0 0 A) (F0 m 68 ls []) := by
        intro  H locs ls hl hW hS hf
        unfold f_X12_knownOne_68 at hf
        refine lv_iconst (v := -1) hx hb dX12_knownOne_68 (by decide +kernel) ?_
        exact gm_iret hx hb hr hlocks hW hS hf dX12_knownOne_69
      refine lv_if_lt (tgt := 68) hx hb dX12_knownOne_14 (by decide) (fun c6 => ?_) (fun c6 => ?_)
      · replace hf := hf.1 c6
        exact j68  _ _ _ (lv_sub hl [] rfl) hW hS hf
      · replace hf := hf.2 c6
        refine lv_iload hx hb dX12_knownOne_17 (lv_at hl 3 rfl) ?_
        refine lv_iconst (v := 5) hx hb dX12_knownOne_19 (by decide +kernel) ?_
        refine lv_icmp_ge (tgt := 68) hx hb dX12_knownOne_20 (by decide) (fun c7 => ?_) (fun c7 => ?_)
        · replace hf := hf.1 c7
          exact j68  _ _ _ (lv_sub hl [] rfl) hW hS hf
        · replace hf := hf.2 c7
          refine lv_lload_n hx hb dX12_knownOne_23 rfl (lv_at hl 2 rfl) ?_
          refine lv_lconst (v := 0) hx hb dX12_knownOne_24 (by decide) ?_
          refine W.lcmp hx hb dX12_knownOne_25 ?_
          refine lv_if_lt (tgt := 68) hx hb dX12_knownOne_26 (by decide) (fun c8 => ?_) (fun c8 => ?_)
          · replace hf := hf.1 (lg_lt.mp c8)
            exact j68  _ _ _ (lv_sub hl [] rfl) hW hS hf
          · replace hf := hf.2 (fun z => c8 (lg_lt.mpr z))
            refine lv_aload_n hx hb dX12_knownOne_29 rfl (lv_at hl 0 rfl) ?_
            obtain ⟨b9, hb9, hf⟩ := hf
            refine gm_getR (C := RX12) (T := TX12) (N := 68) (j := 19) hx hb hts inT_12 hown hK hW k1 (by decide) rfl (by decide) rfl (hts _ kw_1335) rfl dX12_knownOne_30 hb9 ?_
            refine lv_iload hx hb dX12_knownOne_33 (lv_at hl 5 rfl) ?_
            obtain ⟨k10, hf⟩ := hf
            obtain ⟨h11, hf⟩ := hf
            refine gm_iald hx hb hK hW k10 h11 dX12_knownOne_35 ?_
            refine lv_iload_n hx hb dX12_knownOne_36 rfl (lv_at hl 1 rfl) ?_
            have j62 : ∀ (x12 : Int32) (M13 : Mm) (H : Heap) (locs : List Loc) (ls : Array Slot), lv_has ls 7 [(0, .ref v0), (1, .int v1), (2, .long v2), (4, .int v4), (5, .int x12), (6, .int x4)] → Wd D cy A Y M13 H → va_S A s.heap H locs → f_X12_knownOne_62 Y x4 (LOOP3 (L_X12_knownOne_12 Y v0 v1 v2 v4 Kn) n12) x12 M13 → W p l e rm_X12_knownOne s m args below meth c H locs 0 0 (MQ below (va_Qi Kn (BG D cy A Y) A) args s 0 0 A) (F0 m 62 ls []) := by
              intro x12 M13 H locs ls hl hW hS hf
              unfold f_X12_knownOne_62 at hf
              obtain ⟨x14, ex14⟩ : ∃ y : Int32, y = x4 + (-1) := ⟨_, rfl⟩
              replace hf := hf x14 ex14
              refine lv_iinc (v := x14) (lv' := [(6, .int x14), (0, .ref v0), (1, .int v1), (2, .long v2), (4, .int v4), (5, .int x12)]) hx hb dX12_knownOne_62 hl (k := 5) rfl (by rw [ex14]; rfl) (by decide) rfl (fun ls hl => ?_)
              refine lv_goto (tgt := 12) hx hb dX12_knownOne_65 (by decide) ?_
              exact ih12 _ _ _ _ _ _ (lv_sub hl [1, 2, 3, 4, 5, 0] rfl) hW hS hf
            refine lv_icmp_ne (tgt := 62) hx hb dX12_knownOne_37 (by decide) (fun c15 => ?_) (fun c15 => ?_)
            · replace hf := hf.1 c15
              exact j62 _ _ _ _ _ (lv_sub hl [0, 1, 2, 3, 4, 5] rfl) hW hS hf
            · replace hf := hf.2 c15
              refine lv_aload_n hx hb dX12_knownOne_40 rfl (lv_at hl 0 rfl) ?_
              refine lv_iload hx hb dX12_knownOne_41 (lv_at hl 5 rfl) ?_
              refine gm_cl (va_runV (As := [.int x4]) (rest := []) ⟨hx, hb, hml, hown, hts⟩ (m_X12_producerOf l D cy tq _ Y _ _ _ _) (cwV 1 hts (good_V kw_1575 kw_1576 kw_1841 kw_12 kw_1577) rfl rfl rfl (by decide +kernel) ⟨Nat.le_of_ble_eq_true rfl, Nat.le_of_ble_eq_true rfl⟩) (gm_preV hK hW hC hS hA k1 (by decide) (q := (RX12, TX12, 68)) rfl rfl hf) rfl rfl hl.1 rfl (lv_room (Nat.le_of_ble_eq_true rfl)) dX12_knownOne_43 ⟨Nat.le_of_ble_eq_true rfl, Nat.le_of_ble_eq_true rfl⟩) hW hS hA (fun r17 M16 H locs hW hS hf => ?_)
              refine lv_lload_n hx hb dX12_knownOne_46 rfl (lv_at hl 2 rfl) ?_
              refine W.lcmp hx hb dX12_knownOne_47 ?_
              refine lv_if_ne (tgt := 62) hx hb dX12_knownOne_48 (by decide) (fun c18 => ?_) (fun c18 => ?_)
              · replace hf := hf.1 ((not_congr lg_eq).mp c18)
                exact j62 _ _ _ _ _ (lv_sub hl [0, 1, 2, 3, 4, 5] rfl) hW hS hf
              · replace hf := hf.2 (lg_eq.mp c18)
                refine lv_iload hx hb dX12_knownOne_51 (lv_at hl 4 rfl) ?_
                refine lv_if_ne (tgt := 59) hx hb dX12_knownOne_53 (by decide) (fun c19 => ?_) (fun c19 => ?_)
                · replace hf := hf.1 c19
                  obtain ⟨x20, ex20⟩ : ∃ y : Int32, y = x3 + (-1) := ⟨_, rfl⟩
                  replace hf := hf x20 ex20
                  refine lv_iinc (v := x20) (lv' := [(5, .int x20), (0, .ref v0), (1, .int v1), (2, .long v2), (4, .int v4), (6, .int x4)]) hx hb dX12_knownOne_59 hl (k := 4) rfl (by rw [ex20]; rfl) (by decide) rfl (fun ls hl => ?_)
                  exact j62 _ _ _ _ _ (lv_sub hl [1, 2, 3, 4, 0, 5] rfl) hW hS hf
                · replace hf := hf.2 c19
                  refine lv_iload hx hb dX12_knownOne_56 (lv_at hl 5 rfl) ?_
                  exact gm_iret hx hb hr hlocks hW hS hf dX12_knownOne_58
  exact lp12 n12 _ _ _ _ _ _ (lv_sub hl [2, 3, 4, 5, 1, 0] rfl) hW hS hf

abbrev rm_X12_after : Room := { frames := 2, cells := 0, slots := 0, locals := 80 }
def f_X12_after (Y : Ly) (v0 : Int32) (v1 : Int32) (M : Mm) (Kn : Int32 → Mm → Prop) : Prop :=
  Kn ((((v0.toInt64 + v1.toInt64) + 1) - ((v0.toInt64 + v1.toInt64) + 1) / 2147483648 * 2147483648).toInt32) M
set_option maxHeartbeats 4000000 in
set_option maxRecDepth 100000 in
theorem m_X12_after (l : Launch) (D : va_G) (cy : Cy) (tq sz : Nat) (Y : Ly) (v0 : Int32) (v1 : Int32) (M : Mm) (Kn : Int32 → Mm → Prop) : Met l yX12_after (Cond.code yX12_after cX12_after 2 (some .int) :: TT) rm_X12_after (PcG D cy tq [.int v0, .int v1] sz Y M (f_X12_after Y v0 v1 M Kn)) (va_Qi Kn (BG D cy (Am Y sz) Y) (Am Y sz)) 0 0 (Am Y sz) := by
  refine Met.ofW (cc := cX12_after) (maxL := 2) (ret := (some .int)) (by decide) rfl ?_
  intro p e s m args below meth c s₁ B hml hv
  obtain ⟨hargs, hsz, hW, hK, hC, hf⟩ := hv
  subst hsz
  have hx := B.exec
  have hb := B.bytes
  have hr := B.returns
  have hts : ∀ w ∈ TT, w.before args s = true := fun w h => atoms_spec (ws := Cond.code yX12_after cX12_after 2 (some .int) :: TT) B.pre w (List.mem_cons_of_mem _ h)
  have hown : s.vm.findClass RX12 = some m.cls := findClass_of_methodNamed B.named
  have hlocks := B.notSynchronized
  replace hW := Wd_self (sz := s.heap.size) hW
  generalize hAe : Am Y s.heap.size = A at hW hC ⊢
  have hA : ∀ q : Nat, s.heap.size ≤ q → A q := fun q h => by rw [← hAe]; exact Or.inr h
  clear hAe
  have hS : va_S A s.heap s.heap [] := va_S.rf
  obtain ⟨ls, hE, hl⟩ := gm_entry m [.int v0, .int v1] (n := 2) hargs (Nat.le_of_ble_eq_true rfl)
  rw [hE]
  have hl : lv_has ls 2 [(0, .int v0), (1, .int v1)] := hl
  show W p l e rm_X12_after s m args below meth c s.heap [] 0 0 (MQ below (va_Qi Kn (BG D cy A Y) A) args s 0 0 A) (F0 m 0 ls [])
  unfold f_X12_after at hf
  refine lv_iload_n hx hb dX12_after_0 rfl (lv_at hl 0 rfl) ?_
  refine lv_i2l hx hb dX12_after_1 rfl ?_
  refine lv_iload_n hx hb dX12_after_2 rfl (lv_at hl 1 rfl) ?_
  refine lv_i2l hx hb dX12_after_3 rfl ?_
  refine lv_ladd hx hb dX12_after_4 ?_
  refine lv_lconst (v := 1) hx hb dX12_after_5 (by decide) ?_
  refine lv_ladd hx hb dX12_after_6 ?_
  refine lv_ldc2 (v := 2147483648) hx hb hown (hts _ kw_1594) dX12_after_7 ?_
  refine lv_lrem hx hb dX12_after_10 (by decide) ?_
  refine lv_l2i hx hb dX12_after_11 rfl ?_
  exact gm_iret hx hb hr hlocks hW hS hf dX12_after_12

abbrev rm_X12_judged : Room := { frames := 5, cells := 0, slots := 0, locals := 152 }
def f_X12_judged_199 (Y : Ly) (Kn : Int64 → Mm → Prop) (M25 : Mm) (y26 : Int64) : Prop :=
  Kn y26 M25
def f_X12_judged_181 (Y : Ly) (Kn : Int64 → Mm → Prop) (x12 : Int32) (y24 : Int32) (M25 : Mm) : Prop :=
  (¬ x12 = y24 → (f_X12_judged_199 Y Kn M25 (-7))) ∧ (x12 = y24 → (f_X12_judged_199 Y Kn M25 (-1)))
def f_X12_judged_145 (Y : Ly) (x19 : Int32) (again74 : Int32 → Mm → Prop) (M37 : Mm) : Prop :=
  ∀ x38 : Int32, x38 = x19 + 1 → (again74 x38 M37)
def L_X12_judged_74 (Y : Ly) (v0 : Nat) (v1 : Int32) (Kn : Int64 → Mm → Prop) (r4 : Int64) (x8 : Int32) (x12 : Int32) (r14 : Int32) (x19 : Int32) (M20 : Mm) (again74 : Int32 → Mm → Prop) : Prop :=
  (5 ≤ x19 → (f_X12_epochOf Y v0 r14 M20 (fun r23 M22 => ((x8 ≤ r23 → (f_X12_sequenceOf Y v0 r14 M22 (fun r30 M29 => (f_X12_last Y v0 r14 M29 (fun r32 M31 => (f_X12_after Y r30 r32 M31 (fun r34 M33 => (f_X12_judged_181 Y Kn x12 r34 M33)))))))) ∧ (¬ (x8 ≤ r23) → (f_X12_judged_181 Y Kn x12 0 M22)))))) ∧ (¬ (5 ≤ x19) → (f_X12_knownOne Y v0 v1 r4 x19 M20 (fun r36 M35 => ((r36 < 0 → (f_X12_judged_145 Y x19 again74 M35)) ∧ (¬ (r36 < 0) → (f_X12_epochOf Y v0 r36 M35 (fun r41 M40 => ((¬ r41 = x8 → (f_X12_judged_145 Y x19 again74 M40)) ∧ (r41 = x8 → (f_X12_sequenceOf Y v0 r36 M40 (fun r44 M43 => ((¬ r44 = x12 → (f_X12_judged_145 Y x19 again74 M43)) ∧ (r44 = x12 → (f_X12_last Y v0 r36 M43 (fun r47 M46 => (∃ b48 : Nat, mR M46 v0 10 = some b48 ∧ (f_X12_number Y b48 23 4 M46 (fun r50 M49 => ((¬ r47.toInt64 = r50 → (f_X12_judged_145 Y x19 again74 M49)) ∧ (r47.toInt64 = r50 → (f_X12_base Y v0 r36 M49 (fun r53 M52 => (Kn r53 M52)))))))))))))))))))))))
def f_X12_judged (Y : Ly) (v0 : Nat) (v1 : Int32) (M : Mm) (Kn : Int64 → Mm → Prop) : Prop :=
  yK Y v0 = 12 ∧ (∃ b2 : Nat, mR M v0 10 = some b2 ∧ (f_X12_number Y b2 43 8 M (fun r4 M3 => (∃ b5 : Nat, mR M3 v0 10 = some b5 ∧ (f_X12_number Y b5 51 2 M3 (fun r7 M6 => (∀ x8 : Int32, x8 = r7.toInt32 → (∃ b9 : Nat, mR M6 v0 10 = some b9 ∧ (f_X12_number Y b9 53 4 M6 (fun r11 M10 => (∀ x12 : Int32, x12 = r11.toInt32 → (f_X12_knownOne Y v0 v1 r4 0 M10 (fun r14 M13 => ((0 ≤ r14 → (f_X12_epochOf Y v0 r14 M13 (fun r17 M16 => ((r17 ≤ x8 → (∃ n, LOOP2 (L_X12_judged_74 Y v0 v1 Kn r4 x8 x12 r14) n 0 M16)) ∧ (¬ (r17 ≤ x8) → (Kn (-6) M16)))))) ∧ (¬ (0 ≤ r14) → (Kn (-1) M13))))))))))))))))
set_option maxHeartbeats 4000000 in
set_option maxRecDepth 100000 in
theorem m_X12_judged (l : Launch) (D : va_G) (cy : Cy) (tq sz : Nat) (Y : Ly) (v0 : Nat) (v1 : Int32) (M : Mm) (Kn : Int64 → Mm → Prop) : Met l yX12_judged (Cond.code yX12_judged cX12_judged 9 (some .long) :: TT) rm_X12_judged (PcG D cy tq [.ref v0, .int v1] sz Y M (f_X12_judged Y v0 v1 M Kn)) (va_Ql Kn (BG D cy (Am Y sz) Y) (Am Y sz)) 0 0 (Am Y sz) := by
  refine Met.ofW (cc := cX12_judged) (maxL := 9) (ret := (some .long)) (by decide) rfl ?_
  intro p e s m args below meth c s₁ B hml hv
  obtain ⟨hargs, hsz, hW, hK, hC, hf⟩ := hv
  subst hsz
  have hx := B.exec
  have hb := B.bytes
  have hr := B.returns
  have hts : ∀ w ∈ TT, w.before args s = true := fun w h => atoms_spec (ws := Cond.code yX12_judged cX12_judged 9 (some .long) :: TT) B.pre w (List.mem_cons_of_mem _ h)
  have hown : s.vm.findClass RX12 = some m.cls := findClass_of_methodNamed B.named
  have hlocks := B.notSynchronized
  replace hW := Wd_self (sz := s.heap.size) hW
  generalize hAe : Am Y s.heap.size = A at hW hC ⊢
  have hA : ∀ q : Nat, s.heap.size ≤ q → A q := fun q h => by rw [← hAe]; exact Or.inr h
  clear hAe
  have hS : va_S A s.heap s.heap [] := va_S.rf
  obtain ⟨ls, hE, hl⟩ := gm_entry m [.ref v0, .int v1] (n := 9) hargs (Nat.le_of_ble_eq_true rfl)
  rw [hE]
  have hl : lv_has ls 9 [(0, .ref v0), (1, .int v1)] := hl
  show W p l e rm_X12_judged s m args below meth c s.heap [] 0 0 (MQ below (va_Ql Kn (BG D cy A Y) A) args s 0 0 A) (F0 m 0 ls [])
  unfold f_X12_judged at hf
  refine lv_aload_n hx hb dX12_judged_0 rfl (lv_at hl 0 rfl) ?_
  obtain ⟨k1, hf⟩ := hf
  obtain ⟨b2, hb2, hf⟩ := hf
  refine gm_getR (C := RX12) (T := TX12) (N := 68) (j := 10) hx hb hts inT_12 hown hK hW k1 (by decide) rfl (by decide) rfl (hts _ kw_1326) rfl dX12_judged_1 hb2 ?_
  refine lv_bipush (v := 43) hx hb dX12_judged_4 (by decide +kernel) ?_
  refine lv_bipush (v := 8) hx hb dX12_judged_6 (by decide +kernel) ?_
  refine gm_cl (va_runS (As := [.ref b2, .int 43, .int 8]) (rest := []) ⟨hx, hb, hml, hown, hts⟩ (m_X12_number l D cy tq _ Y _ _ _ _ _) (va_cwS 3 hts (good_S kw_1520 kw_1521 kw_12 kw_1522) rfl rfl rfl (by decide +kernel) ⟨Nat.le_of_ble_eq_true rfl, Nat.le_of_ble_eq_true rfl⟩) (gm_preS hK hW hC hS hA hf) rfl rfl hl.1 rfl (lv_room (Nat.le_of_ble_eq_true rfl)) dX12_judged_8 ⟨Nat.le_of_ble_eq_true rfl, Nat.le_of_ble_eq_true rfl⟩) hW hS hA (fun r4 M3 H locs hW hS hf => ?_)
  refine lv_lstore_n (lv' := [(2, .long r4), (0, .ref v0), (1, .int v1)]) hx hb dX12_judged_11 rfl hl (by decide) rfl (fun ls hl => ?_)
  refine lv_aload_n hx hb dX12_judged_12 rfl (lv_at hl 1 rfl) ?_
  obtain ⟨b5, hb5, hf⟩ := hf
  refine gm_getR (C := RX12) (T := TX12) (N := 68) (j := 10) hx hb hts inT_12 hown hK hW k1 (by decide) rfl (by decide) rfl (hts _ kw_1326) rfl dX12_judged_13 hb5 ?_
  refine lv_bipush (v := 51) hx hb dX12_judged_16 (by decide +kernel) ?_
  refine lv_iconst (v := 2) hx hb dX12_judged_18 (by decide +kernel) ?_
  refine gm_cl (va_runS (As := [.ref b5, .int 51, .int 2]) (rest := []) ⟨hx, hb, hml, hown, hts⟩ (m_X12_number l D cy tq _ Y _ _ _ _ _) (va_cwS 3 hts (good_S kw_1520 kw_1521 kw_12 kw_1522) rfl rfl rfl (by decide +kernel) ⟨Nat.le_of_ble_eq_true rfl, Nat.le_of_ble_eq_true rfl⟩) (gm_preS hK hW hC hS hA hf) rfl rfl hl.1 rfl (lv_room (Nat.le_of_ble_eq_true rfl)) dX12_judged_19 ⟨Nat.le_of_ble_eq_true rfl, Nat.le_of_ble_eq_true rfl⟩) hW hS hA (fun r7 M6 H locs hW hS hf => ?_)
  refine lv_l2i hx hb dX12_judged_22 rfl ?_
  refine lv_topi (fun x8 ex8 => ?_)
  replace hf := hf x8 ex8
  refine lv_istore (lv' := [(4, .int x8), (2, .long r4), (0, .ref v0), (1, .int v1)]) hx hb dX12_judged_23 hl (by decide) rfl (fun ls hl => ?_)
  refine lv_aload_n hx hb dX12_judged_25 rfl (lv_at hl 2 rfl) ?_
  obtain ⟨b9, hb9, hf⟩ := hf
  refine gm_getR (C := RX12) (T := TX12) (N := 68) (j := 10) hx hb hts inT_12 hown hK hW k1 (by decide) rfl (by decide) rfl (hts _ kw_1326) rfl dX12_judged_26 hb9 ?_
  refine lv_bipush (v := 53) hx hb dX12_judged_29 (by decide +kernel) ?_
  refine lv_iconst (v := 4) hx hb dX12_judged_31 (by decide +kernel) ?_
  refine gm_cl (va_runS (As := [.ref b9, .int 53, .int 4]) (rest := []) ⟨hx, hb, hml, hown, hts⟩ (m_X12_number l D cy tq _ Y _ _ _ _ _) (va_cwS 3 hts (good_S kw_1520 kw_1521 kw_12 kw_1522) rfl rfl rfl (by decide +kernel) ⟨Nat.le_of_ble_eq_true rfl, Nat.le_of_ble_eq_true rfl⟩) (gm_preS hK hW hC hS hA hf) rfl rfl hl.1 rfl (lv_room (Nat.le_of_ble_eq_true rfl)) dX12_judged_32 ⟨Nat.le_of_ble_eq_true rfl, Nat.le_of_ble_eq_true rfl⟩) hW hS hA (fun r11 M10 H locs hW hS hf => ?_)
  refine lv_l2i hx hb dX12_judged_35 rfl ?_
  refine lv_topi (fun x12 ex12 => ?_)
  replace hf := hf x12 ex12
  refine lv_istore (lv' := [(5, .int x12), (4, .int x8), (2, .long r4), (0, .ref v0), (1, .int v1)]) hx hb dX12_judged_36 hl (by decide) rfl (fun ls hl => ?_)
  refine lv_aload_n hx hb dX12_judged_38 rfl (lv_at hl 3 rfl) ?_
  refine lv_iload_n hx hb dX12_judged_39 rfl (lv_at hl 4 rfl) ?_
  refine lv_lload_n hx hb dX12_judged_40 rfl (lv_at hl 2 rfl) ?_
  refine lv_iconst (v := 0) hx hb dX12_judged_41 (by decide +kernel) ?_
  refine gm_ci (va_runV (As := [.int v1, .long r4, .int 0]) (rest := []) ⟨hx, hb, hml, hown, hts⟩ (m_X12_knownOne l D cy tq _ Y _ _ _ _ _ _) (cwV 3 hts (good_V kw_1572 kw_1573 kw_1840 kw_12 kw_1574) rfl rfl rfl (by decide +kernel) ⟨Nat.le_of_ble_eq_true rfl, Nat.le_of_ble_eq_true rfl⟩) (gm_preV hK hW hC hS hA k1 (by decide) (q := (RX12, TX12, 68)) rfl rfl hf) rfl rfl hl.1 rfl (lv_room (Nat.le_of_ble_eq_true rfl)) dX12_judged_42 ⟨Nat.le_of_ble_eq_true rfl, Nat.le_of_ble_eq_true rfl⟩) hW hS hA (fun r14 M13 H locs hW hS hf => ?_)
  refine lv_istore (lv' := [(6, .int r14), (5, .int x12), (4, .int x8), (2, .long r4), (0, .ref v0), (1, .int v1)]) hx hb dX12_judged_45 hl (by decide) rfl (fun ls hl => ?_)
  refine lv_iload hx hb dX12_judged_47 (lv_at hl 0 rfl) ?_
  refine lv_if_ge (tgt := 56) hx hb dX12_judged_49 (by decide) (fun c15 => ?_) (fun c15 => ?_)
  · replace hf := hf.1 c15
    refine lv_iload hx hb dX12_judged_56 (lv_at hl 2 rfl) ?_
    refine lv_aload_n hx hb dX12_judged_58 rfl (lv_at hl 4 rfl) ?_
    refine lv_iload hx hb dX12_judged_59 (lv_at hl 0 rfl) ?_
    refine gm_ci (va_runV (As := [.int r14]) (rest := [.int x8]) ⟨hx, hb, hml, hown, hts⟩ (m_X12_epochOf l D cy tq _ Y _ _ _ _) (cwV 1 hts (good_V kw_1578 kw_1579 kw_1842 kw_12 kw_1580) rfl rfl rfl (by decide +kernel) ⟨Nat.le_of_ble_eq_true rfl, Nat.le_of_ble_eq_true rfl⟩) (gm_preV hK hW hC hS hA k1 (by decide) (q := (RX12, TX12, 68)) rfl rfl hf) rfl rfl hl.1 rfl (lv_room (Nat.le_of_ble_eq_true rfl)) dX12_judged_61 ⟨Nat.le_of_ble_eq_true rfl, Nat.le_of_ble_eq_true rfl⟩) hW hS hA (fun r17 M16 H locs hW hS hf => ?_)
    refine lv_icmp_ge (tgt := 71) hx hb dX12_judged_64 (by decide) (fun c18 => ?_) (fun c18 => ?_)
    · replace hf := hf.1 c18
      refine lv_iconst (v := 0) hx hb dX12_judged_71 (by decide +kernel) ?_
      refine lv_istore (lv' := [(7, .int 0), (6, .int r14), (5, .int x12), (4, .int x8), (2, .long r4), (0, .ref v0), (1, .int v1)]) hx hb dX12_judged_72 hl (by decide) rfl (fun ls hl => ?_)
      obtain ⟨n74, hf⟩ := hf
      have lp74 : ∀ (n74 : Nat) (x19 : Int32) (M20 : Mm) (H : Heap) (locs : List Loc) (ls : Array Slot), lv_has ls 9 [(0, .ref v0), (1, .int v1), (2, .long r4), (4, .int x8), (5, .int x12), (6, .int r14), (7, .int x19)] → Wd D cy A Y M20 H → va_S A s.heap H locs → LOOP2 (L_X12_judged_74 Y v0 v1 Kn r4 x8 x12 r14) n74 x19 M20 → W p l e rm_X12_judged s m args below meth c H locs 0 0 (MQ below (va_Ql Kn (BG D cy A Y) A) args s 0 0 A) (F0 m 74 ls []) := by
        intro n74
        induction n74 with
        | zero => intro x19 M20 H locs ls hl hW hS hf; exact hf.elim
        | succ n74 ih74 =>
          intro x19 M20 H locs ls hl hW hS hf
          replace hf : L_X12_judged_74 Y v0 v1 Kn r4 x8 x12 r14 x19 M20 (LOOP2 (L_X12_judged_74 Y v0 v1 Kn r4 x8 x12 r14) n74) := hf
          unfold L_X12_judged_74 at hf
          refine lv_iload hx hb dX12_judged_74 (lv_at hl 6 rfl) ?_
          refine lv_iconst (v := 5) hx hb dX12_judged_76 (by decide +kernel) ?_
          refine lv_icmp_ge (tgt := 151) hx hb dX12_judged_77 (by decide) (fun c21 => ?_) (fun c21 => ?_)
          · replace hf := hf.1 c21
            refine lv_iload hx hb dX12_judged_151 (lv_at hl 3 rfl) ?_
            refine lv_aload_n hx hb dX12_judged_153 rfl (lv_at hl 0 rfl) ?_
            refine lv_iload hx hb dX12_judged_154 (lv_at hl 5 rfl) ?_
            refine gm_ci (va_runV (As := [.int r14]) (rest := [.int x8]) ⟨hx, hb, hml, hown, hts⟩ (m_X12_epochOf l D cy tq _ Y _ _ _ _) (cwV 1 hts (good_V kw_1578 kw_1579 kw_1842 kw_12 kw_1580) rfl rfl rfl (by decide +kernel) ⟨Nat.le_of_ble_eq_true rfl, Nat.le_of_ble_eq_true rfl⟩) (gm_preV hK hW hC hS hA k1 (by decide) (q := (RX12, TX12, 68)) rfl rfl hf) rfl rfl hl.1 rfl (lv_room (Nat.le_of_ble_eq_true rfl)) dX12_judged_156 ⟨Nat.le_of_ble_eq_true rfl, Nat.le_of_ble_eq_true rfl⟩) hW hS hA (fun r23 M22 H locs hW hS hf => ?_)
            have j181 : ∀ (y24 : Int32) (M25 : Mm) (H : Heap) (locs : List Loc) (ls : Array Slot), lv_has ls 9 [(5, .int x12)] → Wd D cy A Y M25 H → va_S A s.heap H locs → f_X12_judged_181 Y Kn x12 y24 M25 → W p l e rm_X12_judged s m args below meth c H locs 0 0 (MQ below (va_Ql Kn (BG D cy A Y) A) args s 0 0 A) (F0 m 181 ls [.int y24]) := by
              intro y24 M25 H locs ls hl hW hS hf
              unfold f_X12_judged_181 at hf
              refine lv_istore (lv' := [(7, .int y24), (5, .int x12)]) hx hb dX12_judged_181 hl (by decide) rfl (fun ls hl => ?_)
              refine lv_iload hx hb dX12_judged_183 (lv_at hl 1 rfl) ?_
              refine lv_iload hx hb dX12_judged_185 (lv_at hl 0 rfl) ?_
              have j199 : ∀ (y26 : Int64) (H : Heap) (locs : List Loc) (ls : Array Slot), lv_has ls 9 [] → Wd D cy A Y M25 H → va_S A s.heap H locs → f_X12_judged_199 Y Kn M25 y26 → W p l e rm_X12_judged s m args below meth c H locs 0 0 (MQ below (va_Ql Kn (BG D cy A Y) A) args s 0 0 A) (F0 m 199 ls [.long y26]) := by
                intro y26 H locs ls hl hW hS hf
                unfold f_X12_judged_199 at hf
                exact gm_lret hx hb hr hlocks hW hS hf dX12_judged_199
              refine lv_icmp_ne (tgt := 196) hx hb dX12_judged_187 (by decide) (fun c27 => ?_) (fun c27 => ?_)
              · replace hf := hf.1 c27
                refine lv_ldc2 (v := -7) hx hb hown (hts _ kw_1595) dX12_judged_196 ?_
                exact j199 _ _ _ _ (lv_sub hl [] rfl) hW hS hf
              · replace hf := hf.2 c27
                refine lv_ldc2 (v := -1) hx hb hown (hts _ kw_1523) dX12_judged_190 ?_
                refine lv_goto (tgt := 199) hx hb dX12_judged_193 (by decide) ?_
                exact j199 _ _ _ _ (lv_sub hl [] rfl) hW hS hf
            refine lv_icmp_le (tgt := 166) hx hb dX12_judged_159 (by decide) (fun c28 => ?_) (fun c28 => ?_)
            · replace hf := hf.1 c28
              refine lv_aload_n hx hb dX12_judged_166 rfl (lv_at hl 0 rfl) ?_
              refine lv_iload hx hb dX12_judged_167 (lv_at hl 5 rfl) ?_
              refine gm_ci (va_runV (As := [.int r14]) (rest := []) ⟨hx, hb, hml, hown, hts⟩ (m_X12_sequenceOf l D cy tq _ Y _ _ _ _) (cwV 1 hts (good_V kw_1582 kw_1583 kw_1843 kw_12 kw_1584) rfl rfl rfl (by decide +kernel) ⟨Nat.le_of_ble_eq_true rfl, Nat.le_of_ble_eq_true rfl⟩) (gm_preV hK hW hC hS hA k1 (by decide) (q := (RX12, TX12, 68)) rfl rfl hf) rfl rfl hl.1 rfl (lv_room (Nat.le_of_ble_eq_true rfl)) dX12_judged_169 ⟨Nat.le_of_ble_eq_true rfl, Nat.le_of_ble_eq_true rfl⟩) hW hS hA (fun r30 M29 H locs hW hS hf => ?_)
              refine lv_aload_n hx hb dX12_judged_172 rfl (lv_at hl 0 rfl) ?_
              refine lv_iload hx hb dX12_judged_173 (lv_at hl 5 rfl) ?_
              refine gm_ci (va_runV (As := [.int r14]) (rest := [.int r30]) ⟨hx, hb, hml, hown, hts⟩ (m_X12_last l D cy tq _ Y _ _ _ _) (cwV 1 hts (good_V kw_1585 kw_1586 kw_1844 kw_12 kw_1587) rfl rfl rfl (by decide +kernel) ⟨Nat.le_of_ble_eq_true rfl, Nat.le_of_ble_eq_true rfl⟩) (gm_preV hK hW hC hS hA k1 (by decide) (q := (RX12, TX12, 68)) rfl rfl hf) rfl rfl hl.1 rfl (lv_room (Nat.le_of_ble_eq_true rfl)) dX12_judged_175 ⟨Nat.le_of_ble_eq_true rfl, Nat.le_of_ble_eq_true rfl⟩) hW hS hA (fun r32 M31 H locs hW hS hf => ?_)
              refine gm_ci (va_runS (As := [.int r30, .int r32]) (rest := []) ⟨hx, hb, hml, hown, hts⟩ (m_X12_after l D cy tq _ Y _ _ _ _) (va_cwS 2 hts (good_S kw_1591 kw_1592 kw_12 kw_1593) rfl rfl rfl (by decide +kernel) ⟨Nat.le_of_ble_eq_true rfl, Nat.le_of_ble_eq_true rfl⟩) (gm_preS hK hW hC hS hA hf) rfl rfl hl.1 rfl (lv_room (Nat.le_of_ble_eq_true rfl)) dX12_judged_178 ⟨Nat.le_of_ble_eq_true rfl, Nat.le_of_ble_eq_true rfl⟩) hW hS hA (fun r34 M33 H locs hW hS hf => ?_)
              exact j181 _ _ _ _ _ (lv_sub hl [4] rfl) hW hS hf
            · replace hf := hf.2 c28
              refine lv_iconst (v := 0) hx hb dX12_judged_162 (by decide +kernel) ?_
              refine lv_goto (tgt := 181) hx hb dX12_judged_163 (by decide) ?_
              exact j181 _ _ _ _ _ (lv_sub hl [4] rfl) hW hS hf
          · replace hf := hf.2 c21
            refine lv_aload_n hx hb dX12_judged_80 rfl (lv_at hl 0 rfl) ?_
            refine lv_iload_n hx hb dX12_judged_81 rfl (lv_at hl 1 rfl) ?_
            refine lv_lload_n hx hb dX12_judged_82 rfl (lv_at hl 2 rfl) ?_
            refine lv_iload hx hb dX12_judged_83 (lv_at hl 6 rfl) ?_
            refine gm_ci (va_runV (As := [.int v1, .long r4, .int x19]) (rest := []) ⟨hx, hb, hml, hown, hts⟩ (m_X12_knownOne l D cy tq _ Y _ _ _ _ _ _) (cwV 3 hts (good_V kw_1572 kw_1573 kw_1840 kw_12 kw_1574) rfl rfl rfl (by decide +kernel) ⟨Nat.le_of_ble_eq_true rfl, Nat.le_of_ble_eq_true rfl⟩) (gm_preV hK hW hC hS hA k1 (by decide) (q := (RX12, TX12, 68)) rfl rfl hf) rfl rfl hl.1 rfl (lv_room (Nat.le_of_ble_eq_true rfl)) dX12_judged_85 ⟨Nat.le_of_ble_eq_true rfl, Nat.le_of_ble_eq_true rfl⟩) hW hS hA (fun r36 M35 H locs hW hS hf => ?_)
            refine lv_istore (lv' := [(8, .int r36), (0, .ref v0), (1, .int v1), (2, .long r4), (4, .int x8), (5, .int x12), (6, .int r14), (7, .int x19)]) hx hb dX12_judged_88 hl (by decide) rfl (fun ls hl => ?_)
            refine lv_iload hx hb dX12_judged_90 (lv_at hl 0 rfl) ?_
            have j145 : ∀ (M37 : Mm) (H : Heap) (locs : List Loc) (ls : Array Slot), lv_has ls 9 [(0, .ref v0), (1, .int v1), (2, .long r4), (4, .int x8), (5, .int x12), (6, .int r14), (7, .int x19)] → Wd D cy A Y M37 H → va_S A s.heap H locs → f_X12_judged_145 Y x19 (LOOP2 (L_X12_judged_74 Y v0 v1 Kn r4 x8 x12 r14) n74) M37 → W p l e rm_X12_judged s m args below meth c H locs 0 0 (MQ below (va_Ql Kn (BG D cy A Y) A) args s 0 0 A) (F0 m 145 ls []) := by
              intro M37 H locs ls hl hW hS hf
              unfold f_X12_judged_145 at hf
              obtain ⟨x38, ex38⟩ : ∃ y : Int32, y = x19 + 1 := ⟨_, rfl⟩
              replace hf := hf x38 ex38
              refine lv_iinc (v := x38) (lv' := [(7, .int x38), (0, .ref v0), (1, .int v1), (2, .long r4), (4, .int x8), (5, .int x12), (6, .int r14)]) hx hb dX12_judged_145 hl (k := 6) rfl (by rw [ex38]; rfl) (by decide) rfl (fun ls hl => ?_)
              refine lv_goto (tgt := 74) hx hb dX12_judged_148 (by decide) ?_
              exact ih74 _ _ _ _ _ (lv_sub hl [1, 2, 3, 4, 5, 6, 0] rfl) hW hS hf
            refine lv_if_lt (tgt := 145) hx hb dX12_judged_92 (by decide) (fun c39 => ?_) (fun c39 => ?_)
            · replace hf := hf.1 c39
              exact j145 _ _ _ _ (lv_sub hl [1, 2, 3, 4, 5, 6, 7] rfl) hW hS hf
            · replace hf := hf.2 c39
              refine lv_aload_n hx hb dX12_judged_95 rfl (lv_at hl 1 rfl) ?_
              refine lv_iload hx hb dX12_judged_96 (lv_at hl 0 rfl) ?_
              refine gm_ci (va_runV (As := [.int r36]) (rest := []) ⟨hx, hb, hml, hown, hts⟩ (m_X12_epochOf l D cy tq _ Y _ _ _ _) (cwV 1 hts (good_V kw_1578 kw_1579 kw_1842 kw_12 kw_1580) rfl rfl rfl (by decide +kernel) ⟨Nat.le_of_ble_eq_true rfl, Nat.le_of_ble_eq_true rfl⟩) (gm_preV hK hW hC hS hA k1 (by decide) (q := (RX12, TX12, 68)) rfl rfl hf) rfl rfl hl.1 rfl (lv_room (Nat.le_of_ble_eq_true rfl)) dX12_judged_98 ⟨Nat.le_of_ble_eq_true rfl, Nat.le_of_ble_eq_true rfl⟩) hW hS hA (fun r41 M40 H locs hW hS hf => ?_)
              refine lv_iload hx hb dX12_judged_101 (lv_at hl 4 rfl) ?_
              refine lv_icmp_ne (tgt := 145) hx hb dX12_judged_103 (by decide) (fun c42 => ?_) (fun c42 => ?_)
              · replace hf := hf.1 c42
                exact j145 _ _ _ _ (lv_sub hl [1, 2, 3, 4, 5, 6, 7] rfl) hW hS hf
              · replace hf := hf.2 c42
                refine lv_aload_n hx hb dX12_judged_106 rfl (lv_at hl 1 rfl) ?_
                refine lv_iload hx hb dX12_judged_107 (lv_at hl 0 rfl) ?_
                refine gm_ci (va_runV (As := [.int r36]) (rest := []) ⟨hx, hb, hml, hown, hts⟩ (m_X12_sequenceOf l D cy tq _ Y _ _ _ _) (cwV 1 hts (good_V kw_1582 kw_1583 kw_1843 kw_12 kw_1584) rfl rfl rfl (by decide +kernel) ⟨Nat.le_of_ble_eq_true rfl, Nat.le_of_ble_eq_true rfl⟩) (gm_preV hK hW hC hS hA k1 (by decide) (q := (RX12, TX12, 68)) rfl rfl hf) rfl rfl hl.1 rfl (lv_room (Nat.le_of_ble_eq_true rfl)) dX12_judged_109 ⟨Nat.le_of_ble_eq_true rfl, Nat.le_of_ble_eq_true rfl⟩) hW hS hA (fun r44 M43 H locs hW hS hf => ?_)
                refine lv_iload hx hb dX12_judged_112 (lv_at hl 5 rfl) ?_
                refine lv_icmp_ne (tgt := 145) hx hb dX12_judged_114 (by decide) (fun c45 => ?_) (fun c45 => ?_)
                · replace hf := hf.1 c45
                  exact j145 _ _ _ _ (lv_sub hl [1, 2, 3, 4, 5, 6, 7] rfl) hW hS hf
                · replace hf := hf.2 c45
                  refine lv_aload_n hx hb dX12_judged_117 rfl (lv_at hl 1 rfl) ?_
                  refine lv_iload hx hb dX12_judged_118 (lv_at hl 0 rfl) ?_
                  refine gm_ci (va_runV (As := [.int r36]) (rest := []) ⟨hx, hb, hml, hown, hts⟩ (m_X12_last l D cy tq _ Y _ _ _ _) (cwV 1 hts (good_V kw_1585 kw_1586 kw_1844 kw_12 kw_1587) rfl rfl rfl (by decide +kernel) ⟨Nat.le_of_ble_eq_true rfl, Nat.le_of_ble_eq_true rfl⟩) (gm_preV hK hW hC hS hA k1 (by decide) (q := (RX12, TX12, 68)) rfl rfl hf) rfl rfl hl.1 rfl (lv_room (Nat.le_of_ble_eq_true rfl)) dX12_judged_120 ⟨Nat.le_of_ble_eq_true rfl, Nat.le_of_ble_eq_true rfl⟩) hW hS hA (fun r47 M46 H locs hW hS hf => ?_)
                  refine lv_i2l hx hb dX12_judged_123 rfl ?_
                  refine lv_aload_n hx hb dX12_judged_124 rfl (lv_at hl 1 rfl) ?_
                  obtain ⟨b48, hb48, hf⟩ := hf
                  refine gm_getR (C := RX12) (T := TX12) (N := 68) (j := 10) hx hb hts inT_12 hown hK hW k1 (by decide) rfl (by decide) rfl (hts _ kw_1326) rfl dX12_judged_125 hb48 ?_
                  refine lv_bipush (v := 23) hx hb dX12_judged_128 (by decide +kernel) ?_
                  refine lv_iconst (v := 4) hx hb dX12_judged_130 (by decide +kernel) ?_
                  refine gm_cl (va_runS (As := [.ref b48, .int 23, .int 4]) (rest := [.long r47.toInt64]) ⟨hx, hb, hml, hown, hts⟩ (m_X12_number l D cy tq _ Y _ _ _ _ _) (va_cwS 3 hts (good_S kw_1520 kw_1521 kw_12 kw_1522) rfl rfl rfl (by decide +kernel) ⟨Nat.le_of_ble_eq_true rfl, Nat.le_of_ble_eq_true rfl⟩) (gm_preS hK hW hC hS hA hf) rfl rfl hl.1 rfl (lv_room (Nat.le_of_ble_eq_true rfl)) dX12_judged_131 ⟨Nat.le_of_ble_eq_true rfl, Nat.le_of_ble_eq_true rfl⟩) hW hS hA (fun r50 M49 H locs hW hS hf => ?_)
                  refine W.lcmp hx hb dX12_judged_134 ?_
                  refine lv_if_ne (tgt := 145) hx hb dX12_judged_135 (by decide) (fun c51 => ?_) (fun c51 => ?_)
                  · replace hf := hf.1 ((not_congr lg_eq).mp c51)
                    exact j145 _ _ _ _ (lv_sub hl [1, 2, 3, 4, 5, 6, 7] rfl) hW hS hf
                  · replace hf := hf.2 (lg_eq.mp c51)
                    refine lv_aload_n hx hb dX12_judged_138 rfl (lv_at hl 1 rfl) ?_
                    refine lv_iload hx hb dX12_judged_139 (lv_at hl 0 rfl) ?_
                    refine gm_cl (va_runV (As := [.int r36]) (rest := []) ⟨hx, hb, hml, hown, hts⟩ (m_X12_base l D cy tq _ Y _ _ _ _) (cwV 1 hts (good_V kw_1588 kw_1589 kw_1845 kw_12 kw_1590) rfl rfl rfl (by decide +kernel) ⟨Nat.le_of_ble_eq_true rfl, Nat.le_of_ble_eq_true rfl⟩) (gm_preV hK hW hC hS hA k1 (by decide) (q := (RX12, TX12, 68)) rfl rfl hf) rfl rfl hl.1 rfl (lv_room (Nat.le_of_ble_eq_true rfl)) dX12_judged_141 ⟨Nat.le_of_ble_eq_true rfl, Nat.le_of_ble_eq_true rfl⟩) hW hS hA (fun r53 M52 H locs hW hS hf => ?_)
                    exact gm_lret hx hb hr hlocks hW hS hf dX12_judged_144
      exact lp74 n74 _ _ _ _ _ (lv_sub hl [5, 6, 4, 3, 2, 1, 0] rfl) hW hS hf
    · replace hf := hf.2 c18
      refine lv_ldc2 (v := -6) hx hb hown (hts _ kw_1581) dX12_judged_67 ?_
      exact gm_lret hx hb hr hlocks hW hS hf dX12_judged_70
  · replace hf := hf.2 c15
    refine lv_ldc2 (v := -1) hx hb hown (hts _ kw_1523) dX12_judged_52 ?_
    exact gm_lret hx hb hr hlocks hW hS hf dX12_judged_55

abbrev rm_X12_producer : Room := { frames := 3, cells := 0, slots := 0, locals := 103 }
def f_X12_producer_72 (Y : Ly) (v0 : Nat) (Kn : Int64 → Mm → Prop) (M5 : Mm) : Prop :=
  ∀ M6 : Mm, M6 = sJ M5 v0 (m1 (mJ M5 v0) 9 ((mJ M5 v0 9) + 1)) → (Kn ((mJ M6 v0 9) - 1) M6)
def f_X12_producer_57 (Y : Ly) (v0 : Nat) (Kn : Int64 → Mm → Prop) (M3 : Mm) (M8 : Mm) (y10 : Int64) : Prop :=
  ∀ M11 : Mm, M11 = sJ M8 v0 (m1 (mJ M8 v0) 8 ((mJ M3 v0 8) + y10)) → (((mI M11 v0 5) = 0 → (f_X12_producer_72 Y v0 Kn M11)) ∧ (¬ ((mI M11 v0 5) = 0) → (Kn (-3) M11)))
def f_X12_producer_13 (Y : Ly) (v0 : Nat) (M : Mm) (Kn : Int64 → Mm → Prop) (y2 : Int32) : Prop :=
  ∀ M3 : Mm, M3 = sI M v0 (m1 (mI M v0) 0 y2) → (((mI M3 v0 0) ≤ 0 → ((¬ (mJ M3 v0 9) = (mJ M3 v0 8) → (f_X12_producer_72 Y v0 Kn M3)) ∧ ((mJ M3 v0 9) = (mJ M3 v0 8) → (f_X12_spend Y v0 1 M3 (fun r9 M8 => ((r9 = 0 → (f_X12_producer_57 Y v0 Kn M3 M8 0)) ∧ (¬ (r9 = 0) → (f_X12_producer_57 Y v0 Kn M3 M8 100)))))))) ∧ (¬ ((mI M3 v0 0) ≤ 0) → (Kn 0 M3)))
def f_X12_producer (Y : Ly) (v0 : Nat) (M : Mm) (Kn : Int64 → Mm → Prop) : Prop :=
  yK Y v0 = 12 ∧ (((mI M v0 5) = 0 → (f_X12_producer_13 Y v0 M Kn 0)) ∧ (¬ ((mI M v0 5) = 0) → (f_X12_producer_13 Y v0 M Kn 1)))
set_option maxHeartbeats 4000000 in
set_option maxRecDepth 100000 in
theorem m_X12_producer (l : Launch) (D : va_G) (cy : Cy) (tq sz : Nat) (Y : Ly) (v0 : Nat) (M : Mm) (Kn : Int64 → Mm → Prop) : Met l yX12_producer (Cond.code yX12_producer cX12_producer 1 (some .long) :: TT) rm_X12_producer (PcG D cy tq [.ref v0] sz Y M (f_X12_producer Y v0 M Kn)) (va_Ql Kn (BG D cy (Am Y sz) Y) (Am Y sz)) 0 0 (Am Y sz) := by
  refine Met.ofW (cc := cX12_producer) (maxL := 1) (ret := (some .long)) (by decide) rfl ?_
  intro p e s m args below meth c s₁ B hml hv
  obtain ⟨hargs, hsz, hW, hK, hC, hf⟩ := hv
  subst hsz
  have hx := B.exec
  have hb := B.bytes
  have hr := B.returns
  have hts : ∀ w ∈ TT, w.before args s = true := fun w h => atoms_spec (ws := Cond.code yX12_producer cX12_producer 1 (some .long) :: TT) B.pre w (List.mem_cons_of_mem _ h)
  have hown : s.vm.findClass RX12 = some m.cls := findClass_of_methodNamed B.named
  have hlocks := B.notSynchronized
  replace hW := Wd_self (sz := s.heap.size) hW
  generalize hAe : Am Y s.heap.size = A at hW hC ⊢
  have hA : ∀ q : Nat, s.heap.size ≤ q → A q := fun q h => by rw [← hAe]; exact Or.inr h
  clear hAe
  have hS : va_S A s.heap s.heap [] := va_S.rf
  obtain ⟨ls, hE, hl⟩ := gm_entry m [.ref v0] (n := 1) hargs (Nat.le_of_ble_eq_true rfl)
  rw [hE]
  have hl : lv_has ls 1 [(0, .ref v0)] := hl
  show W p l e rm_X12_producer s m args below meth c s.heap [] 0 0 (MQ below (va_Ql Kn (BG D cy A Y) A) args s 0 0 A) (F0 m 0 ls [])
  unfold f_X12_producer at hf
  refine lv_aload_n hx hb dX12_producer_0 rfl (lv_at hl 0 rfl) ?_
  refine lv_aload_n hx hb dX12_producer_1 rfl (lv_at hl 0 rfl) ?_
  obtain ⟨k1, hf⟩ := hf
  refine gm_getI (C := RX12) (T := TX12) (N := 68) (j := 5) hx hb hts inT_12 hown hK hW k1 (by decide) rfl (by decide) rfl (hts _ kw_1321) rfl dX12_producer_2 ?_
  have j13 : ∀ (y2 : Int32) (H : Heap) (locs : List Loc) (ls : Array Slot), lv_has ls 1 [(0, .ref v0)] → Wd D cy A Y M H → va_S A s.heap H locs → f_X12_producer_13 Y v0 M Kn y2 → W p l e rm_X12_producer s m args below meth c H locs 0 0 (MQ below (va_Ql Kn (BG D cy A Y) A) args s 0 0 A) (F0 m 13 ls [.int y2, .ref v0]) := by
    intro y2 H locs ls hl hW hS hf
    unfold f_X12_producer_13 at hf
    refine gm_putI (C := RX12) (T := TX12) (N := 68) (j := 0) hx hb hts inT_12 tyX12 tyX12_ok nmX12 hown hK hW hS k1 (by decide) rfl (by decide) rfl (hts _ kw_1316) rfl rfl rfl rfl dX12_producer_13 (fun H locs M3 eM3 hW hS => ?_)
    replace hf := hf M3 eM3
    refine lv_aload_n hx hb dX12_producer_16 rfl (lv_at hl 0 rfl) ?_
    refine gm_getI (C := RX12) (T := TX12) (N := 68) (j := 0) hx hb hts inT_12 hown hK hW k1 (by decide) rfl (by decide) rfl (hts _ kw_1316) rfl dX12_producer_17 ?_
    refine lv_if_le (tgt := 25) hx hb dX12_producer_20 (by decide) (fun c4 => ?_) (fun c4 => ?_)
    · replace hf := hf.1 c4
      refine lv_aload_n hx hb dX12_producer_25 rfl (lv_at hl 0 rfl) ?_
      refine gm_getJ (C := RX12) (T := TX12) (N := 68) (j := 9) hx hb hts inT_12 hown hK hW k1 (by decide) rfl (by decide) rfl (hts _ kw_1325) rfl dX12_producer_26 ?_
      refine lv_aload_n hx hb dX12_producer_29 rfl (lv_at hl 0 rfl) ?_
      refine gm_getJ (C := RX12) (T := TX12) (N := 68) (j := 8) hx hb hts inT_12 hown hK hW k1 (by decide) rfl (by decide) rfl (hts _ kw_1324) rfl dX12_producer_30 ?_
      refine W.lcmp hx hb dX12_producer_33 ?_
      have j72 : ∀ (M5 : Mm) (H : Heap) (locs : List Loc) (ls : Array Slot), lv_has ls 1 [(0, .ref v0)] → Wd D cy A Y M5 H → va_S A s.heap H locs → f_X12_producer_72 Y v0 Kn M5 → W p l e rm_X12_producer s m args below meth c H locs 0 0 (MQ below (va_Ql Kn (BG D cy A Y) A) args s 0 0 A) (F0 m 72 ls []) := by
        intro M5 H locs ls hl hW hS hf
        unfold f_X12_producer_72 at hf
        refine lv_aload_n hx hb dX12_producer_72 rfl (lv_at hl 0 rfl) ?_
        refine lv_dup hx hb dX12_producer_73 rfl ?_
        refine gm_getJ (C := RX12) (T := TX12) (N := 68) (j := 9) hx hb hts inT_12 hown hK hW k1 (by decide) rfl (by decide) rfl (hts _ kw_1325) rfl dX12_producer_74 ?_
        refine lv_lconst (v := 1) hx hb dX12_producer_77 (by decide) ?_
        refine lv_ladd hx hb dX12_producer_78 ?_
        refine gm_putJ (C := RX12) (T := TX12) (N := 68) (j := 9) hx hb hts inT_12 tyX12 tyX12_ok nmX12 hown hK hW hS k1 (by decide) rfl (by decide) rfl (hts _ kw_1325) rfl rfl rfl rfl dX12_producer_79 (fun H locs M6 eM6 hW hS => ?_)
        replace hf := hf M6 eM6
        refine lv_aload_n hx hb dX12_producer_82 rfl (lv_at hl 0 rfl) ?_
        refine gm_getJ (C := RX12) (T := TX12) (N := 68) (j := 9) hx hb hts inT_12 hown hK hW k1 (by decide) rfl (by decide) rfl (hts _ kw_1325) rfl dX12_producer_83 ?_
        refine lv_lconst (v := 1) hx hb dX12_producer_86 (by decide) ?_
        refine lv_lsub hx hb dX12_producer_87 ?_
        exact gm_lret hx hb hr hlocks hW hS hf dX12_producer_88
      refine lv_if_ne (tgt := 72) hx hb dX12_producer_34 (by decide) (fun c7 => ?_) (fun c7 => ?_)
      · replace hf := hf.1 ((not_congr lg_eq).mp c7)
        exact j72 _ _ _ _ (lv_sub hl [0] rfl) hW hS hf
      · replace hf := hf.2 (lg_eq.mp c7)
        refine lv_aload_n hx hb dX12_producer_37 rfl (lv_at hl 0 rfl) ?_
        refine lv_dup hx hb dX12_producer_38 rfl ?_
        refine gm_getJ (C := RX12) (T := TX12) (N := 68) (j := 8) hx hb hts inT_12 hown hK hW k1 (by decide) rfl (by decide) rfl (hts _ kw_1324) rfl dX12_producer_39 ?_
        refine lv_aload_n hx hb dX12_producer_42 rfl (lv_at hl 0 rfl) ?_
        refine lv_iconst (v := 1) hx hb dX12_producer_43 (by decide +kernel) ?_
        refine gm_ci (va_runV (As := [.int 1]) (rest := [.long (mJ M3 v0 8), .ref v0]) ⟨hx, hb, hml, hown, hts⟩ (m_X12_spend l D cy tq _ Y _ _ _ _) (cwV 1 hts (good_V kw_1555 kw_1556 kw_1837 kw_12 kw_1557) rfl rfl rfl (by decide +kernel) ⟨Nat.le_of_ble_eq_true rfl, Nat.le_of_ble_eq_true rfl⟩) (gm_preV hK hW hC hS hA k1 (by decide) (q := (RX12, TX12, 68)) rfl rfl hf) rfl rfl hl.1 rfl (lv_room (Nat.le_of_ble_eq_true rfl)) dX12_producer_44 ⟨Nat.le_of_ble_eq_true rfl, Nat.le_of_ble_eq_true rfl⟩) hW hS hA (fun r9 M8 H locs hW hS hf => ?_)
        have j57 : ∀ (y10 : Int64) (H : Heap) (locs : List Loc) (ls : Array Slot), lv_has ls 1 [(0, .ref v0)] → Wd D cy A Y M8 H → va_S A s.heap H locs → f_X12_producer_57 Y v0 Kn M3 M8 y10 → W p l e rm_X12_producer s m args below meth c H locs 0 0 (MQ below (va_Ql Kn (BG D cy A Y) A) args s 0 0 A) (F0 m 57 ls [.long y10, .long (mJ M3 v0 8), .ref v0]) := by
          intro y10 H locs ls hl hW hS hf
          unfold f_X12_producer_57 at hf
          refine lv_ladd hx hb dX12_producer_57 ?_
          refine gm_putJ (C := RX12) (T := TX12) (N := 68) (j := 8) hx hb hts inT_12 tyX12 tyX12_ok nmX12 hown hK hW hS k1 (by decide) rfl (by decide) rfl (hts _ kw_1324) rfl rfl rfl rfl dX12_producer_58 (fun H locs M11 eM11 hW hS => ?_)
          replace hf := hf M11 eM11
          refine lv_aload_n hx hb dX12_producer_61 rfl (lv_at hl 0 rfl) ?_
          refine gm_getI (C := RX12) (T := TX12) (N := 68) (j := 5) hx hb hts inT_12 hown hK hW k1 (by decide) rfl (by decide) rfl (hts _ kw_1321) rfl dX12_producer_62 ?_
          refine lv_if_eq (tgt := 72) hx hb dX12_producer_65 (by decide) (fun c12 => ?_) (fun c12 => ?_)
          · replace hf := hf.1 c12
            exact j72 _ _ _ _ (lv_sub hl [0] rfl) hW hS hf
          · replace hf := hf.2 c12
            refine lv_ldc2 (v := -3) hx hb hown (hts _ kw_1559) dX12_producer_68 ?_
            exact gm_lret hx hb hr hlocks hW hS hf dX12_producer_71
        refine lv_if_eq (tgt := 56) hx hb dX12_producer_47 (by decide) (fun c13 => ?_) (fun c13 => ?_)
        · replace hf := hf.1 c13
          refine lv_lconst (v := 0) hx hb dX12_producer_56 (by decide) ?_
          exact j57 _ _ _ _ (lv_sub hl [0] rfl) hW hS hf
        · replace hf := hf.2 c13
          refine lv_ldc2 (v := 100) hx hb hown (hts _ kw_1558) dX12_producer_50 ?_
          refine lv_goto (tgt := 57) hx hb dX12_producer_53 (by decide) ?_
          exact j57 _ _ _ _ (lv_sub hl [0] rfl) hW hS hf
    · replace hf := hf.2 c4
      refine lv_lconst (v := 0) hx hb dX12_producer_23 (by decide) ?_
      exact gm_lret hx hb hr hlocks hW hS hf dX12_producer_24
  refine lv_if_eq (tgt := 12) hx hb dX12_producer_5 (by decide) (fun c14 => ?_) (fun c14 => ?_)
  · replace hf := hf.1 c14
    refine lv_iconst (v := 0) hx hb dX12_producer_12 (by decide +kernel) ?_
    exact j13 _ _ _ _ (lv_sub hl [0] rfl) hW hS hf
  · replace hf := hf.2 c14
    refine lv_iconst (v := 1) hx hb dX12_producer_8 (by decide +kernel) ?_
    refine lv_goto (tgt := 13) hx hb dX12_producer_9 (by decide) ?_
    exact j13 _ _ _ _ (lv_sub hl [0] rfl) hW hS hf

abbrev rm_X12_produce : Room := { frames := 6, cells := 0, slots := 0, locals := 180 }
def f_X12_produce_126 (Y : Ly) (Kn : Int64 → Mm → Prop) (M21 : Mm) (y23 : Int64) : Prop :=
  Kn y23 M21
def f_X12_produce_18 (Y : Ly) (v0 : Nat) (v1 : Int32) (M : Mm) (Kn : Int64 → Mm → Prop) (y1 : Int32) : Prop :=
  yK Y v0 = 12 ∧ (f_X12_goes Y v0 y1 M (fun r3 M2 => ((¬ r3 = 0 → (f_X12_readTape Y v0 M2 (fun M6 => (∀ x7 : Int32, x7 = mI M6 v0 11 → (∀ M8 : Mm, M8 = sI M6 v0 (m1 (mI M6 v0) 11 0) → (((mI M8 v0 44) ≤ 0 → ((x7 ≤ (1024 * (mI M8 v0 2)) → (∀ M11 : Mm, M11 = sI M8 v0 (m1 (mI M8 v0) 11 x7) → (f_X12_judged Y v0 v1 M11 (fun r13 M12 => (∀ M14 : Mm, M14 = sI M12 v0 (m1 (mI M12 v0) 11 0) → ((r13 = (-1) → (∃ b16 : Nat, mR M14 v0 27 = some b16 ∧ (yK Y b16 = 102 ∧ (vp_in v1 (yN Y b16) ∧ (∀ x19 : Int64, x19 = mJ M14 b16 v1.toNatClampNeg → (∃ b20 : Nat, mR M14 v0 10 = some b20 ∧ (f_X12_append Y v0 v1 b20 x7 M14 (fun r22 M21 => ((0 ≤ r22 → (f_X12_produce_126 Y Kn M21 x19)) ∧ (¬ (0 ≤ r22) → (f_X12_produce_126 Y Kn M21 r22.toInt64))))))))))) ∧ (¬ (r13 = (-1)) → (Kn r13 M14)))))))) ∧ (¬ (x7 ≤ (1024 * (mI M8 v0 2))) → (Kn (-5) M8)))) ∧ (¬ ((mI M8 v0 44) ≤ 0) → (Kn (-4) M8)))))))) ∧ (r3 = 0 → (Kn 0 M2)))))
def f_X12_produce_17 (Y : Ly) (v0 : Nat) (v1 : Int32) (M : Mm) (Kn : Int64 → Mm → Prop) : Prop :=
  f_X12_produce_18 Y v0 v1 M Kn 0
def f_X12_produce (Y : Ly) (v0 : Nat) (v1 : Int32) (M : Mm) (Kn : Int64 → Mm → Prop) : Prop :=
  (v1 < 0 → (f_X12_produce_17 Y v0 v1 M Kn)) ∧ (¬ (v1 < 0) → (yK Y v0 = 12 ∧ (((mI M v0 1) ≤ v1 → (f_X12_produce_17 Y v0 v1 M Kn)) ∧ (¬ ((mI M v0 1) ≤ v1) → (f_X12_produce_18 Y v0 v1 M Kn 1)))))
set_option maxHeartbeats 4000000 in
set_option maxRecDepth 100000 in
theorem m_X12_produce (l : Launch) (D : va_G) (cy : Cy) (tq sz : Nat) (Y : Ly) (v0 : Nat) (v1 : Int32) (M : Mm) (Kn : Int64 → Mm → Prop) : Met l yX12_produce (Cond.code yX12_produce cX12_produce 8 (some .long) :: TT) rm_X12_produce (PcG D cy tq [.ref v0, .int v1] sz Y M (f_X12_produce Y v0 v1 M Kn)) (va_Ql Kn (BG D cy (Am Y sz) Y) (Am Y sz)) 0 0 (Am Y sz) := by
  refine Met.ofW (cc := cX12_produce) (maxL := 8) (ret := (some .long)) (by decide) rfl ?_
  intro p e s m args below meth c s₁ B hml hv
  obtain ⟨hargs, hsz, hW, hK, hC, hf⟩ := hv
  subst hsz
  have hx := B.exec
  have hb := B.bytes
  have hr := B.returns
  have hts : ∀ w ∈ TT, w.before args s = true := fun w h => atoms_spec (ws := Cond.code yX12_produce cX12_produce 8 (some .long) :: TT) B.pre w (List.mem_cons_of_mem _ h)
  have hown : s.vm.findClass RX12 = some m.cls := findClass_of_methodNamed B.named
  have hlocks := B.notSynchronized
  replace hW := Wd_self (sz := s.heap.size) hW
  generalize hAe : Am Y s.heap.size = A at hW hC ⊢
  have hA : ∀ q : Nat, s.heap.size ≤ q → A q := fun q h => by rw [← hAe]; exact Or.inr h
  clear hAe
  have hS : va_S A s.heap s.heap [] := va_S.rf
  obtain ⟨ls, hE, hl⟩ := gm_entry m [.ref v0, .int v1] (n := 8) hargs (Nat.le_of_ble_eq_true rfl)
  rw [hE]
  have hl : lv_has ls 8 [(0, .ref v0), (1, .int v1)] := hl
  show W p l e rm_X12_produce s m args below meth c s.heap [] 0 0 (MQ below (va_Ql Kn (BG D cy A Y) A) args s 0 0 A) (F0 m 0 ls [])
  unfold f_X12_produce at hf
  refine lv_aload_n hx hb dX12_produce_0 rfl (lv_at hl 0 rfl) ?_
  refine lv_iload_n hx hb dX12_produce_1 rfl (lv_at hl 1 rfl) ?_
  have j18 : ∀ (y1 : Int32) (H : Heap) (locs : List Loc) (ls : Array Slot), lv_has ls 8 [(0, .ref v0), (1, .int v1)] → Wd D cy A Y M H → va_S A s.heap H locs → f_X12_produce_18 Y v0 v1 M Kn y1 → W p l e rm_X12_produce s m args below meth c H locs 0 0 (MQ below (va_Ql Kn (BG D cy A Y) A) args s 0 0 A) (F0 m 18 ls [.int y1, .ref v0]) := by
    intro y1 H locs ls hl hW hS hf
    unfold f_X12_produce_18 at hf
    obtain ⟨k4, hf⟩ := hf
    refine gm_ci (va_runV (As := [.int y1]) (rest := []) ⟨hx, hb, hml, hown, hts⟩ (m_X12_goes l D cy tq _ Y _ _ _ _) (cwV 1 hts (good_V kw_1564 kw_1565 kw_1838 kw_12 kw_1566) rfl rfl rfl (by decide +kernel) ⟨Nat.le_of_ble_eq_true rfl, Nat.le_of_ble_eq_true rfl⟩) (gm_preV hK hW hC hS hA k4 (by decide) (q := (RX12, TX12, 68)) rfl rfl hf) rfl rfl hl.1 rfl (lv_room (Nat.le_of_ble_eq_true rfl)) dX12_produce_18 ⟨Nat.le_of_ble_eq_true rfl, Nat.le_of_ble_eq_true rfl⟩) hW hS hA (fun r3 M2 H locs hW hS hf => ?_)
    refine lv_if_ne (tgt := 26) hx hb dX12_produce_21 (by decide) (fun c5 => ?_) (fun c5 => ?_)
    · replace hf := hf.1 c5
      refine lv_aload_n hx hb dX12_produce_26 rfl (lv_at hl 0 rfl) ?_
      refine gm_cv (va_runV (As := []) (rest := []) ⟨hx, hb, hml, hown, hts⟩ (m_X12_readTape l D cy tq _ Y _ _ _) (cwV 0 hts (good_V kw_1517 kw_1518 kw_1829 kw_12 kw_1519) rfl rfl rfl (by decide +kernel) ⟨Nat.le_of_ble_eq_true rfl, Nat.le_of_ble_eq_true rfl⟩) (gm_preV hK hW hC hS hA k4 (by decide) (q := (RX12, TX12, 68)) rfl rfl hf) rfl rfl hl.1 rfl (lv_room (Nat.le_of_ble_eq_true rfl)) dX12_produce_27 ⟨Nat.le_of_ble_eq_true rfl, Nat.le_of_ble_eq_true rfl⟩) hW hS hA (fun M6 H locs hW hS hf => ?_)
      refine lv_aload_n hx hb dX12_produce_30 rfl (lv_at hl 0 rfl) ?_
      refine gm_getI (C := RX12) (T := TX12) (N := 68) (j := 11) hx hb hts inT_12 hown hK hW k4 (by decide) rfl (by decide) rfl (hts _ kw_1327) rfl dX12_produce_31 ?_
      refine lv_topi (fun x7 ex7 => ?_)
      replace hf := hf x7 ex7
      refine lv_istore_n (lv' := [(2, .int x7), (0, .ref v0), (1, .int v1)]) hx hb dX12_produce_34 rfl hl (by decide) rfl (fun ls hl => ?_)
      refine lv_aload_n hx hb dX12_produce_35 rfl (lv_at hl 1 rfl) ?_
      refine lv_iconst (v := 0) hx hb dX12_produce_36 (by decide +kernel) ?_
      refine gm_putI (C := RX12) (T := TX12) (N := 68) (j := 11) hx hb hts inT_12 tyX12 tyX12_ok nmX12 hown hK hW hS k4 (by decide) rfl (by decide) rfl (hts _ kw_1327) rfl rfl rfl rfl dX12_produce_37 (fun H locs M8 eM8 hW hS => ?_)
      replace hf := hf M8 eM8
      refine lv_aload_n hx hb dX12_produce_40 rfl (lv_at hl 1 rfl) ?_
      refine gm_getI (C := RX12) (T := TX12) (N := 68) (j := 44) hx hb hts inT_12 hown hK hW k4 (by decide) rfl (by decide) rfl (hts _ kw_1360) rfl dX12_produce_41 ?_
      refine lv_if_le (tgt := 51) hx hb dX12_produce_44 (by decide) (fun c9 => ?_) (fun c9 => ?_)
      · replace hf := hf.1 c9
        refine lv_iload_n hx hb dX12_produce_51 rfl (lv_at hl 0 rfl) ?_
        refine lv_sipush (v := 1024) hx hb dX12_produce_52 (by decide +kernel) ?_
        refine lv_aload_n hx hb dX12_produce_55 rfl (lv_at hl 1 rfl) ?_
        refine gm_getI (C := RX12) (T := TX12) (N := 68) (j := 2) hx hb hts inT_12 hown hK hW k4 (by decide) rfl (by decide) rfl (hts _ kw_1318) rfl dX12_produce_56 ?_
        refine lv_imul hx hb dX12_produce_59 ?_
        refine lv_icmp_le (tgt := 67) hx hb dX12_produce_60 (by decide) (fun c10 => ?_) (fun c10 => ?_)
        · replace hf := hf.1 c10
          refine lv_aload_n hx hb dX12_produce_67 rfl (lv_at hl 1 rfl) ?_
          refine lv_iload_n hx hb dX12_produce_68 rfl (lv_at hl 0 rfl) ?_
          refine gm_putI (C := RX12) (T := TX12) (N := 68) (j := 11) hx hb hts inT_12 tyX12 tyX12_ok nmX12 hown hK hW hS k4 (by decide) rfl (by decide) rfl (hts _ kw_1327) rfl rfl rfl rfl dX12_produce_69 (fun H locs M11 eM11 hW hS => ?_)
          replace hf := hf M11 eM11
          refine lv_aload_n hx hb dX12_produce_72 rfl (lv_at hl 1 rfl) ?_
          refine lv_iload_n hx hb dX12_produce_73 rfl (lv_at hl 2 rfl) ?_
          refine gm_cl (va_runV (As := [.int v1]) (rest := []) ⟨hx, hb, hml, hown, hts⟩ (m_X12_judged l D cy tq _ Y _ _ _ _) (cwV 1 hts (good_V kw_1569 kw_1570 kw_1839 kw_12 kw_1571) rfl rfl rfl (by decide +kernel) ⟨Nat.le_of_ble_eq_true rfl, Nat.le_of_ble_eq_true rfl⟩) (gm_preV hK hW hC hS hA k4 (by decide) (q := (RX12, TX12, 68)) rfl rfl hf) rfl rfl hl.1 rfl (lv_room (Nat.le_of_ble_eq_true rfl)) dX12_produce_74 ⟨Nat.le_of_ble_eq_true rfl, Nat.le_of_ble_eq_true rfl⟩) hW hS hA (fun r13 M12 H locs hW hS hf => ?_)
          refine lv_lstore_n (lv' := [(3, .long r13), (2, .int x7), (0, .ref v0), (1, .int v1)]) hx hb dX12_produce_77 rfl hl (by decide) rfl (fun ls hl => ?_)
          refine lv_aload_n hx hb dX12_produce_78 rfl (lv_at hl 2 rfl) ?_
          refine lv_iconst (v := 0) hx hb dX12_produce_79 (by decide +kernel) ?_
          refine gm_putI (C := RX12) (T := TX12) (N := 68) (j := 11) hx hb hts inT_12 tyX12 tyX12_ok nmX12 hown hK hW hS k4 (by decide) rfl (by decide) rfl (hts _ kw_1327) rfl rfl rfl rfl dX12_produce_80 (fun H locs M14 eM14 hW hS => ?_)
          replace hf := hf M14 eM14
          refine lv_lload_n hx hb dX12_produce_83 rfl (lv_at hl 0 rfl) ?_
          refine lv_ldc2 (v := -1) hx hb hown (hts _ kw_1523) dX12_produce_84 ?_
          refine W.lcmp hx hb dX12_produce_87 ?_
          refine lv_if_eq (tgt := 93) hx hb dX12_produce_88 (by decide) (fun c15 => ?_) (fun c15 => ?_)
          · replace hf := hf.1 (lg_eq.mp c15)
            refine lv_aload_n hx hb dX12_produce_93 rfl (lv_at hl 2 rfl) ?_
            obtain ⟨b16, hb16, hf⟩ := hf
            refine gm_getR (C := RX12) (T := TX12) (N := 68) (j := 27) hx hb hts inT_12 hown hK hW k4 (by decide) rfl (by decide) rfl (hts _ kw_1343) rfl dX12_produce_94 hb16 ?_
            refine lv_iload_n hx hb dX12_produce_97 rfl (lv_at hl 3 rfl) ?_
            obtain ⟨k17, hf⟩ := hf
            obtain ⟨h18, hf⟩ := hf
            refine gm_lald hx hb hK hW k17 h18 dX12_produce_98 ?_
            refine lv_topl (fun x19 ex19 => ?_)
            replace hf := hf x19 ex19
            refine lv_lstore (lv' := [(5, .long x19), (3, .long r13), (2, .int x7), (0, .ref v0), (1, .int v1)]) hx hb dX12_produce_99 hl (by decide) rfl (fun ls hl => ?_)
            refine lv_aload_n hx hb dX12_produce_101 rfl (lv_at hl 3 rfl) ?_
            refine lv_iload_n hx hb dX12_produce_102 rfl (lv_at hl 4 rfl) ?_
            refine lv_aload_n hx hb dX12_produce_103 rfl (lv_at hl 3 rfl) ?_
            obtain ⟨b20, hb20, hf⟩ := hf
            refine gm_getR (C := RX12) (T := TX12) (N := 68) (j := 10) hx hb hts inT_12 hown hK hW k4 (by decide) rfl (by decide) rfl (hts _ kw_1326) rfl dX12_produce_104 hb20 ?_
            refine lv_iload_n hx hb dX12_produce_107 rfl (lv_at hl 2 rfl) ?_
            refine gm_ci (va_runV (As := [.int v1, .ref b20, .int x7]) (rest := []) ⟨hx, hb, hml, hown, hts⟩ (m_X12_append l D cy tq _ Y _ _ _ _ _ _) (cwV 3 hts (good_V kw_1596 kw_1597 kw_1846 kw_12 kw_1598) rfl rfl rfl (by decide +kernel) ⟨Nat.le_of_ble_eq_true rfl, Nat.le_of_ble_eq_true rfl⟩) (gm_preV hK hW hC hS hA k4 (by decide) (q := (RX12, TX12, 68)) rfl rfl hf) rfl rfl hl.1 rfl (lv_room (Nat.le_of_ble_eq_true rfl)) dX12_produce_108 ⟨Nat.le_of_ble_eq_true rfl, Nat.le_of_ble_eq_true rfl⟩) hW hS hA (fun r22 M21 H locs hW hS hf => ?_)
            refine lv_istore (lv' := [(7, .int r22), (5, .long x19), (3, .long r13), (2, .int x7), (0, .ref v0), (1, .int v1)]) hx hb dX12_produce_111 hl (by decide) rfl (fun ls hl => ?_)
            refine lv_iload hx hb dX12_produce_113 (lv_at hl 0 rfl) ?_
            have j126 : ∀ (y23 : Int64) (H : Heap) (locs : List Loc) (ls : Array Slot), lv_has ls 8 [] → Wd D cy A Y M21 H → va_S A s.heap H locs → f_X12_produce_126 Y Kn M21 y23 → W p l e rm_X12_produce s m args below meth c H locs 0 0 (MQ below (va_Ql Kn (BG D cy A Y) A) args s 0 0 A) (F0 m 126 ls [.long y23]) := by
              intro y23 H locs ls hl hW hS hf
              unfold f_X12_produce_126 at hf
              exact gm_lret hx hb hr hlocks hW hS hf dX12_produce_126
            refine lv_if_ge (tgt := 124) hx hb dX12_produce_115 (by decide) (fun c24 => ?_) (fun c24 => ?_)
            · replace hf := hf.1 c24
              refine lv_lload hx hb dX12_produce_124 (lv_at hl 1 rfl) ?_
              exact j126 _ _ _ _ (lv_sub hl [] rfl) hW hS hf
            · replace hf := hf.2 c24
              refine lv_iload hx hb dX12_produce_118 (lv_at hl 0 rfl) ?_
              refine lv_i2l hx hb dX12_produce_120 rfl ?_
              refine lv_goto (tgt := 126) hx hb dX12_produce_121 (by decide) ?_
              exact j126 _ _ _ _ (lv_sub hl [] rfl) hW hS hf
          · replace hf := hf.2 (fun z => c15 (lg_eq.mpr z))
            refine lv_lload_n hx hb dX12_produce_91 rfl (lv_at hl 0 rfl) ?_
            exact gm_lret hx hb hr hlocks hW hS hf dX12_produce_92
        · replace hf := hf.2 c10
          refine lv_ldc2 (v := -5) hx hb hown (hts _ kw_1568) dX12_produce_63 ?_
          exact gm_lret hx hb hr hlocks hW hS hf dX12_produce_66
      · replace hf := hf.2 c9
        refine lv_ldc2 (v := -4) hx hb hown (hts _ kw_1567) dX12_produce_47 ?_
        exact gm_lret hx hb hr hlocks hW hS hf dX12_produce_50
    · replace hf := hf.2 c5
      refine lv_lconst (v := 0) hx hb dX12_produce_24 (by decide) ?_
      exact gm_lret hx hb hr hlocks hW hS hf dX12_produce_25
  have j17 : ∀ (H : Heap) (locs : List Loc) (ls : Array Slot), lv_has ls 8 [(0, .ref v0), (1, .int v1)] → Wd D cy A Y M H → va_S A s.heap H locs → f_X12_produce_17 Y v0 v1 M Kn  → W p l e rm_X12_produce s m args below meth c H locs 0 0 (MQ below (va_Ql Kn (BG D cy A Y) A) args s 0 0 A) (F0 m 17 ls [.ref v0]) := by
    intro  H locs ls hl hW hS hf
    unfold f_X12_produce_17 at hf
    refine lv_iconst (v := 0) hx hb dX12_produce_17 (by decide +kernel) ?_
    exact j18 _ _ _ _ (lv_sub hl [0, 1] rfl) hW hS hf
  refine lv_if_lt (tgt := 17) hx hb dX12_produce_2 (by decide) (fun c25 => ?_) (fun c25 => ?_)
  · replace hf := hf.1 c25
    exact j17  _ _ _ (lv_sub hl [0, 1] rfl) hW hS hf
  · replace hf := hf.2 c25
    refine lv_iload_n hx hb dX12_produce_5 rfl (lv_at hl 1 rfl) ?_
    refine lv_aload_n hx hb dX12_produce_6 rfl (lv_at hl 0 rfl) ?_
    obtain ⟨k26, hf⟩ := hf
    refine gm_getI (C := RX12) (T := TX12) (N := 68) (j := 1) hx hb hts inT_12 hown hK hW k26 (by decide) rfl (by decide) rfl (hts _ kw_1317) rfl dX12_produce_7 ?_
    refine lv_icmp_ge (tgt := 17) hx hb dX12_produce_10 (by decide) (fun c27 => ?_) (fun c27 => ?_)
    · replace hf := hf.1 c27
      exact j17  _ _ _ (lv_sub hl [0, 1] rfl) hW hS hf
    · replace hf := hf.2 c27
      refine lv_iconst (v := 1) hx hb dX12_produce_13 (by decide +kernel) ?_
      refine lv_goto (tgt := 18) hx hb dX12_produce_14 (by decide) ?_
      exact j18 _ _ _ _ (lv_sub hl [0, 1] rfl) hW hS hf
