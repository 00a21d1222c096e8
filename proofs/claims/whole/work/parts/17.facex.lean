/-! by gen.py: what the methods do, and that they do it -/
abbrev rm_X11_init : Room := { frames := 4, cells := 83, slots := 785849, locals := 126 }
def f_X11_init (Y : Ly) (v0 : Nat) (v1 : Int32) (v2 : Int32) (v3 : Int32) (M : Mm) (Kn : Ly → Mm → Prop) : Prop :=
  ∀ q1 : Nat, yK Y q1 = 0 → ∀ Y2 : Ly, Y2 = yNew Y q1 100 16384 → ∀ M3 : Mm, M3 = mZ M q1 → (yK Y2 v0 = 11 ∧ (∀ M5 : Mm, M5 = sR M3 v0 (m1 (mR M3 v0) 1 (some q1)) → (∀ q6 : Nat, yK Y2 q6 = 0 → ∀ Y7 : Ly, Y7 = yNew Y2 q6 4 0 → ∀ M8 : Mm, M8 = mZ M5 q6 → (f_X4_init Y7 q6 M8 (fun Y9 M10 => (yK Y9 v0 = 11 ∧ (∀ M12 : Mm, M12 = sR M10 v0 (m1 (mR M10 v0) 3 (some q6)) → (∀ q13 : Nat, yK Y9 q13 = 0 → ∀ Y14 : Ly, Y14 = yNew Y9 q13 5 0 → ∀ M15 : Mm, M15 = mZ M12 q13 → (f_X5_init Y14 q13 M15 (fun Y16 M17 => (yK Y16 v0 = 11 ∧ (∀ M19 : Mm, M19 = sR M17 v0 (m1 (mR M17 v0) 4 (some q13)) → (∀ q20 : Nat, yK Y16 q20 = 0 → ∀ Y21 : Ly, Y21 = yNew Y16 q20 6 0 → ∀ M22 : Mm, M22 = mZ M19 q20 → (f_X6_init Y21 q20 M22 (fun Y23 M24 => (yK Y23 v0 = 11 ∧ (∀ M26 : Mm, M26 = sR M24 v0 (m1 (mR M24 v0) 5 (some q20)) → (∀ q27 : Nat, yK Y23 q27 = 0 → ∀ Y28 : Ly, Y28 = yNew Y23 q27 100 8 → ∀ M29 : Mm, M29 = mZ M26 q27 → (yK Y28 v0 = 11 ∧ (∀ M31 : Mm, M31 = sR M29 v0 (m1 (mR M29 v0) 7 (some q27)) → (∀ x32 : Int32, x32 = (if 1 < (if 8 < v1 then 8 else v1) then (if 8 < v1 then 8 else v1) else 1) → (∀ q33 : Nat, yK Y28 q33 = 0 → ∀ Y34 : Ly, Y34 = yNew Y28 q33 3 0 → ∀ M35 : Mm, M35 = mZ M31 q33 → (f_X3_init Y34 q33 (if 32 < (if 256 < v3 then 256 else v3) then (if 256 < v3 then 256 else v3) else 32) M35 (fun Y36 M37 => (∀ q38 : Nat, yK Y36 q38 = 0 → ∀ Y39 : Ly, Y39 = yNew Y36 q38 9 0 → ∀ M40 : Mm, M40 = mZ M37 q38 → (f_X9_init Y39 q38 q33 x32 (if 1 < (if 16 < v2 then 16 else v2) then (if 16 < v2 then 16 else v2) else 1) M40 (fun Y41 M42 => (yK Y41 v0 = 11 ∧ (∀ M44 : Mm, M44 = sI M42 v0 (m1 (mI M42 v0) 0 x32) → (∀ M45 : Mm, M45 = sR M44 v0 (m1 (mR M44 v0) 6 (some q33)) → (∀ M46 : Mm, M46 = sR M45 v0 (m1 (mR M45 v0) 10 (some q38)) → (∀ q47 : Nat, yK Y41 q47 = 0 → ∀ Y48 : Ly, Y48 = yNew Y41 q47 2 0 → ∀ M49 : Mm, M49 = mZ M46 q47 → (f_X2_init Y48 q47 q38 M49 (fun Y50 M51 => (yK Y50 v0 = 11 ∧ (∀ M53 : Mm, M53 = sR M51 v0 (m1 (mR M51 v0) 11 (some q47)) → (∀ q54 : Nat, yK Y50 q54 = 0 → ∀ Y55 : Ly, Y55 = yNew Y50 q54 7 0 → ∀ M56 : Mm, M56 = mZ M53 q54 → (f_X7_init Y55 q54 q38 M56 (fun Y57 M58 => (yK Y57 v0 = 11 ∧ (∀ M60 : Mm, M60 = sR M58 v0 (m1 (mR M58 v0) 12 (some q54)) → (Kn Y57 M60))))))))))))))))))))))))))))))))))))))))))
set_option maxHeartbeats 4000000 in
set_option maxRecDepth 100000 in
theorem m_X11_init (l : Launch) (D : va_G) (cy : Cy) (tq sz : Nat) (Y : Ly) (v0 : Nat) (v1 : Int32) (v2 : Int32) (v3 : Int32) (M : Mm) (Kn : Ly → Mm → Prop) : Met l yX11_init (Cond.code yX11_init cX11_init 7 none :: TT) rm_X11_init (PcG D cy tq [.ref v0, .int v1, .int v2, .int v3] sz Y M (f_X11_init Y v0 v1 v2 v3 M Kn)) (QA D cy (Am Y sz) Kn) 83 785849 (Am Y sz) := by
  refine Met.ofW (cc := cX11_init) (maxL := 7) (ret := none) (by decide) rfl ?_
  intro p e s m args below meth c s₁ B hml hv
  obtain ⟨hargs, hsz, hW, hK, hC, hf⟩ := hv
  subst hsz
  have hx := B.exec
  have hb := B.bytes
  have hr := B.returns
  have hts : ∀ w ∈ TT, w.before args s = true := fun w h => atoms_spec (ws := Cond.code yX11_init cX11_init 7 none :: TT) B.pre w (List.mem_cons_of_mem _ h)
  have hown : s.vm.findClass RX11 = some m.cls := findClass_of_methodNamed B.named
  have hlocks := B.notSynchronized
  have hin : meth.name = "<init>" := (name_of_methodNamed B.named B.method).1
  replace hW := Wd_self (sz := s.heap.size) hW
  generalize hAe : Am Y s.heap.size = A at hW hC ⊢
  have hA : ∀ q : Nat, s.heap.size ≤ q → A q := fun q h => by rw [← hAe]; exact Or.inr h
  clear hAe
  have hS : va_S A s.heap s.heap [] := va_S.rf
  obtain ⟨ls, hE, hl⟩ := gm_entry m [.ref v0, .int v1, .int v2, .int v3] (n := 7) hargs (Nat.le_of_ble_eq_true rfl)
  rw [hE]
  have hl : lv_has ls 7 [(0, .ref v0), (1, .int v1), (2, .int v2), (3, .int v3)] := hl
  show W p l e rm_X11_init s m args below meth c s.heap [] 0 0 (MQ below (QA D cy A Kn) args s 83 785849 A) (F0 m 0 ls [])
  unfold f_X11_init at hf
  refine lv_aload_n hx hb dX11_init_0 rfl (lv_at hl 0 rfl) ?_
  refine W.objInit hx hb hown (hts _ kw_35) (hts _ kw_36) (hts _ kw_37) rfl (by rw [hml]; exact hl.1) rfl dX11_init_1 (Nat.le_of_ble_eq_true rfl) (Nat.le_of_ble_eq_true rfl) ?_
  refine W.eq (g2 := F0 m 4 ls []) rfl ?_
  refine lv_aload_n hx hb dX11_init_4 rfl (lv_at hl 0 rfl) ?_
  refine lv_sipush (v := 16384) hx hb dX11_init_5 (by decide +kernel) ?_
  refine gm_newb hx hb (hts _ kw_55) hK hW hS hA (n := 16384) 16384 (by decide +kernel) (by decide +kernel) (Nat.le_refl _) (by decide) (by show _ ≤ 83; omega) (by show _ ≤ 785849; omega) dX11_init_8 (fun q1 H Y2 M3 h0q1 eY2 eM3 hW hS => ?_)
  replace hf := hf q1 h0q1 Y2 eY2 M3 eM3
  obtain ⟨k4, hf⟩ := hf
  refine gm_putFR (C := RX11) (T := TX11) (N := 13) (j := 1) hx hb hts inT_11 tyX11 tyX11_ok nmX11 hown hK hW hS k4 (by decide) rfl (by decide) rfl (hts _ kw_295) rfl rfl hin rfl rfl rfl dX11_init_10 (fun H locs M5 eM5 hW hS => ?_)
  replace hf := hf M5 eM5
  refine lv_aload_n hx hb dX11_init_13 rfl (lv_at hl 0 rfl) ?_
  refine gm_new (ci := 4) hx hb hts inT_4 tyX4 tyX4_ok hown (hts _ kw_38) (hts _ kw_39) (hts _ kw_2) hK hW hS hA rfl (by decide) rfl def_4 (by show _ ≤ 83; omega) (by show _ ≤ 785849; omega) dX11_init_14 (fun q6 H Y7 M8 h0q6 eY7 eM8 hW hS => ?_)
  replace hf := hf q6 h0q6 Y7 eY7 M8 eM8
  refine lv_dup hx hb dX11_init_17 rfl ?_
  refine gm_ca (va_runIN (As := []) (rest := [.ref q6, .ref v0]) ⟨hx, hb, hml, hown, hts⟩ (m_X4_init l D cy tq _ Y7 _ _ _) ⟨va_cnB 0 hts (good_C kw_41) rfl rfl rfl hC.2.2.2.2.1 (hts _ kw_2) (by decide +kernel) ⟨Nat.le_of_ble_eq_true rfl, Nat.le_of_ble_eq_true rfl⟩, rfl, hts _ kw_40⟩ (gm_preS hK hW hC hS hA hf) rfl rfl hl.1 rfl (lv_room (Nat.le_of_ble_eq_true rfl)) dX11_init_18 ⟨by show _ ≤ 83; omega, by show _ ≤ 785849; omega⟩) hW hS hA (fun Y9 M10 H locs hW hS hf => ?_)
  obtain ⟨k11, hf⟩ := hf
  refine gm_putFR (C := RX11) (T := TX11) (N := 13) (j := 3) hx hb hts inT_11 tyX11 tyX11_ok nmX11 hown hK hW hS k11 (by decide) rfl (by decide) rfl (hts _ kw_297) rfl rfl hin rfl rfl rfl dX11_init_21 (fun H locs M12 eM12 hW hS => ?_)
  replace hf := hf M12 eM12
  refine lv_aload_n hx hb dX11_init_24 rfl (lv_at hl 0 rfl) ?_
  refine gm_new (ci := 5) hx hb hts inT_5 tyX5 tyX5_ok hown (hts _ kw_56) (hts _ kw_57) (hts _ kw_3) hK hW hS hA rfl (by decide) rfl def_5 (by show _ ≤ 83; omega) (by show _ ≤ 785849; omega) dX11_init_25 (fun q13 H Y14 M15 h0q13 eY14 eM15 hW hS => ?_)
  replace hf := hf q13 h0q13 Y14 eY14 M15 eM15
  refine lv_dup hx hb dX11_init_28 rfl ?_
  refine gm_ca (va_runIN (As := []) (rest := [.ref q13, .ref v0]) ⟨hx, hb, hml, hown, hts⟩ (m_X5_init l D cy tq _ Y14 _ _ _) ⟨va_cnB 0 hts (good_C kw_59) rfl rfl rfl hC.2.2.2.2.2.1 (hts _ kw_3) (by decide +kernel) ⟨Nat.le_of_ble_eq_true rfl, Nat.le_of_ble_eq_true rfl⟩, rfl, hts _ kw_58⟩ (gm_preS hK hW hC hS hA hf) rfl rfl hl.1 rfl (lv_room (Nat.le_of_ble_eq_true rfl)) dX11_init_29 ⟨by show _ ≤ 83; omega, by show _ ≤ 785849; omega⟩) hW hS hA (fun Y16 M17 H locs hW hS hf => ?_)
  obtain ⟨k18, hf⟩ := hf
  refine gm_putFR (C := RX11) (T := TX11) (N := 13) (j := 4) hx hb hts inT_11 tyX11 tyX11_ok nmX11 hown hK hW hS k18 (by decide) rfl (by decide) rfl (hts _ kw_298) rfl rfl hin rfl rfl rfl dX11_init_32 (fun H locs M19 eM19 hW hS => ?_)
  replace hf := hf M19 eM19
  refine lv_aload_n hx hb dX11_init_35 rfl (lv_at hl 0 rfl) ?_
  refine gm_new (ci := 6) hx hb hts inT_6 tyX6 tyX6_ok hown (hts _ kw_108) (hts _ kw_109) (hts _ kw_5) hK hW hS hA rfl (by decide) rfl def_6 (by show _ ≤ 83; omega) (by show _ ≤ 785849; omega) dX11_init_36 (fun q20 H Y21 M22 h0q20 eY21 eM22 hW hS => ?_)
  replace hf := hf q20 h0q20 Y21 eY21 M22 eM22
  refine lv_dup hx hb dX11_init_39 rfl ?_
  refine gm_ca (va_runIN (As := []) (rest := [.ref q20, .ref v0]) ⟨hx, hb, hml, hown, hts⟩ (m_X6_init l D cy tq _ Y21 _ _ _) ⟨va_cnB 0 hts (good_C kw_111) rfl rfl rfl hC.2.2.2.2.2.2.2.1 (hts _ kw_5) (by decide +kernel) ⟨Nat.le_of_ble_eq_true rfl, Nat.le_of_ble_eq_true rfl⟩, rfl, hts _ kw_110⟩ (gm_preS hK hW hC hS hA hf) rfl rfl hl.1 rfl (lv_room (Nat.le_of_ble_eq_true rfl)) dX11_init_40 ⟨by show _ ≤ 83; omega, by show _ ≤ 785849; omega⟩) hW hS hA (fun Y23 M24 H locs hW hS hf => ?_)
  obtain ⟨k25, hf⟩ := hf
  refine gm_putFR (C := RX11) (T := TX11) (N := 13) (j := 5) hx hb hts inT_11 tyX11 tyX11_ok nmX11 hown hK hW hS k25 (by decide) rfl (by decide) rfl (hts _ kw_299) rfl rfl hin rfl rfl rfl dX11_init_43 (fun H locs M26 eM26 hW hS => ?_)
  replace hf := hf M26 eM26
  refine lv_aload_n hx hb dX11_init_46 rfl (lv_at hl 0 rfl) ?_
  refine lv_bipush (v := 8) hx hb dX11_init_47 (by decide +kernel) ?_
  refine gm_newb hx hb (hts _ kw_55) hK hW hS hA (n := 8) 8 (by decide +kernel) (by decide +kernel) (Nat.le_refl _) (by decide) (by show _ ≤ 83; omega) (by show _ ≤ 785849; omega) dX11_init_49 (fun q27 H Y28 M29 h0q27 eY28 eM29 hW hS => ?_)
  replace hf := hf q27 h0q27 Y28 eY28 M29 eM29
  obtain ⟨k30, hf⟩ := hf
  refine gm_putFR (C := RX11) (T := TX11) (N := 13) (j := 7) hx hb hts inT_11 tyX11 tyX11_ok nmX11 hown hK hW hS k30 (by decide) rfl (by decide) rfl (hts _ kw_301) rfl rfl hin rfl rfl rfl dX11_init_51 (fun H locs M31 eM31 hW hS => ?_)
  replace hf := hf M31 eM31
  refine lv_iconst (v := 1) hx hb dX11_init_54 (by decide +kernel) ?_
  refine lv_iload_n hx hb dX11_init_55 rfl (lv_at hl 1 rfl) ?_
  refine lv_bipush (v := 8) hx hb dX11_init_56 (by decide +kernel) ?_
  refine va_mmin hx hb (by rw [hml]; exact hl.1.symm) hown (hts _ kw_130) (hts _ kw_131) (hts _ kw_6) (hts _ kmath_minI) (Nat.le_of_ble_eq_true rfl) (Nat.le_of_ble_eq_true rfl) (by show _ ≤ 83; omega) (by show _ ≤ 785849; omega) dX11_init_58 ?_
  refine va_mmax hx hb (by rw [hml]; exact hl.1.symm) hown (hts _ kw_133) (hts _ kw_134) (hts _ kw_6) (hts _ kmath_maxI) (Nat.le_of_ble_eq_true rfl) (Nat.le_of_ble_eq_true rfl) (by show _ ≤ 83; omega) (by show _ ≤ 785849; omega) dX11_init_61 ?_
  refine lv_topi (fun x32 ex32 => ?_)
  replace hf := hf x32 ex32
  refine lv_istore (lv' := [(4, .int x32), (0, .ref v0), (1, .int v1), (2, .int v2), (3, .int v3)]) hx hb dX11_init_64 hl (by decide) rfl (fun ls hl => ?_)
  refine gm_new (ci := 3) hx hb hts inT_3 tyX3 tyX3_ok hown (hts _ kw_136) (hts _ kw_137) (hts _ kw_7) hK hW hS hA rfl (by decide) rfl def_3 (by show _ ≤ 83; omega) (by show _ ≤ 785849; omega) dX11_init_66 (fun q33 H Y34 M35 h0q33 eY34 eM35 hW hS => ?_)
  replace hf := hf q33 h0q33 Y34 eY34 M35 eM35
  refine lv_dup hx hb dX11_init_69 rfl ?_
  refine lv_bipush (v := 32) hx hb dX11_init_70 (by decide +kernel) ?_
  refine lv_iload_n hx hb dX11_init_72 rfl (lv_at hl 4 rfl) ?_
  refine lv_sipush (v := 256) hx hb dX11_init_73 (by decide +kernel) ?_
  refine va_mmin hx hb (by rw [hml]; exact hl.1.symm) hown (hts _ kw_130) (hts _ kw_131) (hts _ kw_6) (hts _ kmath_minI) (Nat.le_of_ble_eq_true rfl) (Nat.le_of_ble_eq_true rfl) (by show _ ≤ 83; omega) (by show _ ≤ 785849; omega) dX11_init_76 ?_
  refine va_mmax hx hb (by rw [hml]; exact hl.1.symm) hown (hts _ kw_133) (hts _ kw_134) (hts _ kw_6) (hts _ kmath_maxI) (Nat.le_of_ble_eq_true rfl) (Nat.le_of_ble_eq_true rfl) (by show _ ≤ 83; omega) (by show _ ≤ 785849; omega) dX11_init_79 ?_
  refine gm_ca (va_runI (As := [.int (if 32 < (if 256 < v3 then 256 else v3) then (if 256 < v3 then 256 else v3) else 32)]) (rest := [.ref q33]) ⟨hx, hb, hml, hown, hts⟩ (m_X3_init l D cy tq _ Y34 _ _ _ _) (cwI 1 hts (good_C kw_140) rfl rfl rfl (hts _ kw_7) (hts _ kw_138) (hts _ kw_139) rfl (by decide +kernel) ⟨Nat.le_of_ble_eq_true rfl, Nat.le_of_ble_eq_true rfl⟩) (gm_preS hK hW hC hS hA hf) rfl rfl hl.1 rfl (lv_room (Nat.le_of_ble_eq_true rfl)) dX11_init_82 ⟨by show _ ≤ 83; omega, by show _ ≤ 785849; omega⟩) hW hS hA (fun Y36 M37 H locs hW hS hf => ?_)
  refine lv_astore (lv' := [(5, .ref q33), (4, .int x32), (0, .ref v0), (1, .int v1), (2, .int v2), (3, .int v3)]) hx hb dX11_init_85 hl (by decide) rfl (fun ls hl => ?_)
  refine gm_new (ci := 9) hx hb hts inT_9 tyX9 tyX9_ok hown (hts _ kw_157) (hts _ kw_158) (hts _ kw_8) hK hW hS hA rfl (by decide) rfl def_9 (by show _ ≤ 83; omega) (by show _ ≤ 785849; omega) dX11_init_87 (fun q38 H Y39 M40 h0q38 eY39 eM40 hW hS => ?_)
  replace hf := hf q38 h0q38 Y39 eY39 M40 eM40
  refine lv_dup hx hb dX11_init_90 rfl ?_
  refine lv_aload hx hb dX11_init_91 (lv_at hl 0 rfl) ?_
  refine lv_iload hx hb dX11_init_93 (lv_at hl 1 rfl) ?_
  refine lv_iconst (v := 1) hx hb dX11_init_95 (by decide +kernel) ?_
  refine lv_iload_n hx hb dX11_init_96 rfl (lv_at hl 4 rfl) ?_
  refine lv_bipush (v := 16) hx hb dX11_init_97 (by decide +kernel) ?_
  refine va_mmin hx hb (by rw [hml]; exact hl.1.symm) hown (hts _ kw_130) (hts _ kw_131) (hts _ kw_6) (hts _ kmath_minI) (Nat.le_of_ble_eq_true rfl) (Nat.le_of_ble_eq_true rfl) (by show _ ≤ 83; omega) (by show _ ≤ 785849; omega) dX11_init_99 ?_
  refine va_mmax hx hb (by rw [hml]; exact hl.1.symm) hown (hts _ kw_133) (hts _ kw_134) (hts _ kw_6) (hts _ kmath_maxI) (Nat.le_of_ble_eq_true rfl) (Nat.le_of_ble_eq_true rfl) (by show _ ≤ 83; omega) (by show _ ≤ 785849; omega) dX11_init_102 ?_
  refine gm_ca (va_runI (As := [.ref q33, .int x32, .int (if 1 < (if 16 < v2 then 16 else v2) then (if 16 < v2 then 16 else v2) else 1)]) (rest := [.ref q38]) ⟨hx, hb, hml, hown, hts⟩ (m_X9_init l D cy tq _ Y39 _ _ _ _ _ _) (cwI 3 hts (good_C kw_161) rfl rfl rfl (hts _ kw_8) (hts _ kw_159) (hts _ kw_160) rfl (by decide +kernel) ⟨Nat.le_of_ble_eq_true rfl, Nat.le_of_ble_eq_true rfl⟩) (gm_preS hK hW hC hS hA hf) rfl rfl hl.1 rfl (lv_room (Nat.le_of_ble_eq_true rfl)) dX11_init_105 ⟨by show _ ≤ 83; omega, by show _ ≤ 785849; omega⟩) hW hS hA (fun Y41 M42 H locs hW hS hf => ?_)
  refine lv_astore (lv' := [(6, .ref q38), (5, .ref q33), (4, .int x32), (0, .ref v0), (1, .int v1), (2, .int v2), (3, .int v3)]) hx hb dX11_init_108 hl (by decide) rfl (fun ls hl => ?_)
  refine lv_aload_n hx hb dX11_init_110 rfl (lv_at hl 3 rfl) ?_
  refine lv_iload hx hb dX11_init_111 (lv_at hl 2 rfl) ?_
  obtain ⟨k43, hf⟩ := hf
  refine gm_putFI (C := RX11) (T := TX11) (N := 13) (j := 0) hx hb hts inT_11 tyX11 tyX11_ok nmX11 hown hK hW hS k43 (by decide) rfl (by decide) rfl (hts _ kw_294) rfl rfl hin rfl rfl rfl dX11_init_113 (fun H locs M44 eM44 hW hS => ?_)
  replace hf := hf M44 eM44
  refine lv_aload_n hx hb dX11_init_116 rfl (lv_at hl 3 rfl) ?_
  refine lv_aload hx hb dX11_init_117 (lv_at hl 1 rfl) ?_
  refine gm_putFR (C := RX11) (T := TX11) (N := 13) (j := 6) hx hb hts inT_11 tyX11 tyX11_ok nmX11 hown hK hW hS k43 (by decide) rfl (by decide) rfl (hts _ kw_300) rfl rfl hin rfl rfl rfl dX11_init_119 (fun H locs M45 eM45 hW hS => ?_)
  replace hf := hf M45 eM45
  refine lv_aload_n hx hb dX11_init_122 rfl (lv_at hl 3 rfl) ?_
  refine lv_aload hx hb dX11_init_123 (lv_at hl 0 rfl) ?_
  refine gm_putFR (C := RX11) (T := TX11) (N := 13) (j := 10) hx hb hts inT_11 tyX11 tyX11_ok nmX11 hown hK hW hS k43 (by decide) rfl (by decide) rfl (hts _ kw_304) rfl rfl hin rfl rfl rfl dX11_init_125 (fun H locs M46 eM46 hW hS => ?_)
  replace hf := hf M46 eM46
  refine lv_aload_n hx hb dX11_init_128 rfl (lv_at hl 3 rfl) ?_
  refine gm_new (ci := 2) hx hb hts inT_2 tyX2 tyX2_ok hown (hts _ kw_232) (hts _ kw_233) (hts _ kw_10) hK hW hS hA rfl (by decide) rfl def_2 (by show _ ≤ 83; omega) (by show _ ≤ 785849; omega) dX11_init_129 (fun q47 H Y48 M49 h0q47 eY48 eM49 hW hS => ?_)
  replace hf := hf q47 h0q47 Y48 eY48 M49 eM49
  refine lv_dup hx hb dX11_init_132 rfl ?_
  refine lv_aload hx hb dX11_init_133 (lv_at hl 0 rfl) ?_
  refine gm_ca (va_runI (As := [.ref q38]) (rest := [.ref q47, .ref v0]) ⟨hx, hb, hml, hown, hts⟩ (m_X2_init l D cy tq _ Y48 _ _ _ _) (cwI 1 hts (good_C kw_236) rfl rfl rfl (hts _ kw_10) (hts _ kw_234) (hts _ kw_235) rfl (by decide +kernel) ⟨Nat.le_of_ble_eq_true rfl, Nat.le_of_ble_eq_true rfl⟩) (gm_preS hK hW hC hS hA hf) rfl rfl hl.1 rfl (lv_room (Nat.le_of_ble_eq_true rfl)) dX11_init_135 ⟨by show _ ≤ 83; omega, by show _ ≤ 785849; omega⟩) hW hS hA (fun Y50 M51 H locs hW hS hf => ?_)
  obtain ⟨k52, hf⟩ := hf
  refine gm_putFR (C := RX11) (T := TX11) (N := 13) (j := 11) hx hb hts inT_11 tyX11 tyX11_ok nmX11 hown hK hW hS k52 (by decide) rfl (by decide) rfl (hts _ kw_305) rfl rfl hin rfl rfl rfl dX11_init_138 (fun H locs M53 eM53 hW hS => ?_)
  replace hf := hf M53 eM53
  refine lv_aload_n hx hb dX11_init_141 rfl (lv_at hl 3 rfl) ?_
  refine gm_new (ci := 7) hx hb hts inT_7 tyX7 tyX7_ok hown (hts _ kw_265) (hts _ kw_266) (hts _ kw_11) hK hW hS hA rfl (by decide) rfl def_7 (by show _ ≤ 83; omega) (by show _ ≤ 785849; omega) dX11_init_142 (fun q54 H Y55 M56 h0q54 eY55 eM56 hW hS => ?_)
  replace hf := hf q54 h0q54 Y55 eY55 M56 eM56
  refine lv_dup hx hb dX11_init_145 rfl ?_
  refine lv_aload hx hb dX11_init_146 (lv_at hl 0 rfl) ?_
  refine gm_ca (va_runI (As := [.ref q38]) (rest := [.ref q54, .ref v0]) ⟨hx, hb, hml, hown, hts⟩ (m_X7_init l D cy tq _ Y55 _ _ _ _) (cwI 1 hts (good_C kw_269) rfl rfl rfl (hts _ kw_11) (hts _ kw_267) (hts _ kw_268) rfl (by decide +kernel) ⟨Nat.le_of_ble_eq_true rfl, Nat.le_of_ble_eq_true rfl⟩) (gm_preS hK hW hC hS hA hf) rfl rfl hl.1 rfl (lv_room (Nat.le_of_ble_eq_true rfl)) dX11_init_148 ⟨by show _ ≤ 83; omega, by show _ ≤ 785849; omega⟩) hW hS hA (fun Y57 M58 H locs hW hS hf => ?_)
  obtain ⟨k59, hf⟩ := hf
  refine gm_putFR (C := RX11) (T := TX11) (N := 13) (j := 12) hx hb hts inT_11 tyX11 tyX11_ok nmX11 hown hK hW hS k59 (by decide) rfl (by decide) rfl (hts _ kw_306) rfl rfl hin rfl rfl rfl dX11_init_151 (fun H locs M60 eM60 hW hS => ?_)
  replace hf := hf M60 eM60
  refine W.widen (k := 83) (n := 785849) (by omega) (by omega) ?_
  exact gm_vretA hx hb hr hlocks hW hS hf dX11_init_154

abbrev rm_X11_feed : Room := { frames := 7, cells := 1, slots := 6, locals := 110 }
def f_X11_feed_18 (Y : Ly) (v0 : Nat) (v1 : Int32) (v2 : Int32) (v3 : Int32) (v4 : Int32) (v5 : Int32) (M : Mm) (Kn : Int32 → Mm → Prop) (Xn : String → Mm → Prop) (y2 : Int32) : Prop :=
  f_X11_needState Y y2 M (fun M3 => (∃ b4 : Nat, mR M3 v0 1 = some b4 ∧ (f_X1_put Y b4 (mI M3 v0 2) 4 v1.toInt64 M3 (fun M5 => (∃ b6 : Nat, mR M5 v0 1 = some b6 ∧ (f_X1_put Y b6 ((mI M5 v0 2) + 4) 4 v2.toInt64 M5 (fun M7 => (∃ b8 : Nat, mR M7 v0 1 = some b8 ∧ (f_X1_put Y b8 ((mI M7 v0 2) + 8) 4 v3.toInt64 M7 (fun M9 => (∃ b10 : Nat, mR M9 v0 1 = some b10 ∧ (f_X1_put Y b10 ((mI M9 v0 2) + 12) 4 v4.toInt64 M9 (fun M11 => (∃ b12 : Nat, mR M11 v0 1 = some b12 ∧ (f_X1_put Y b12 ((mI M11 v0 2) + 16) 4 v5.toInt64 M11 (fun M13 => (∀ M14 : Mm, M14 = sI M13 v0 (m1 (mI M13 v0) 2 ((mI M13 v0 2) + 20)) → (Kn (mI M14 v0 2) M14)))))))))))))))))) Xn
def f_X11_feed (Y : Ly) (v0 : Nat) (v1 : Int32) (v2 : Int32) (v3 : Int32) (v4 : Int32) (v5 : Int32) (M : Mm) (Kn : Int32 → Mm → Prop) (Xn : String → Mm → Prop) : Prop :=
  yK Y v0 = 11 ∧ ((16384 < ((mI M v0 2) + 20) → (f_X11_feed_18 Y v0 v1 v2 v3 v4 v5 M Kn Xn 0)) ∧ (¬ (16384 < ((mI M v0 2) + 20)) → (f_X11_feed_18 Y v0 v1 v2 v3 v4 v5 M Kn Xn 1)))
set_option maxHeartbeats 4000000 in
set_option maxRecDepth 100000 in
theorem m_X11_feed (l : Launch) (hlt : l.stackTraces = false) (D : va_G) (cy : Cy) (tq sz : Nat) (Y : Ly) (v0 : Nat) (v1 : Int32) (v2 : Int32) (v3 : Int32) (v4 : Int32) (v5 : Int32) (M : Mm) (Kn : Int32 → Mm → Prop) (Xn : String → Mm → Prop) : vx_Met l yX11_feed (Cond.code yX11_feed cX11_feed 6 (some .int) :: TT) rm_X11_feed (PcG D cy tq [.ref v0, .int v1, .int v2, .int v3, .int v4, .int v5] sz Y M (f_X11_feed Y v0 v1 v2 v3 v4 v5 M Kn Xn)) (va_Qi Kn (BG D cy (Am Y sz) Y) (Am Y sz)) (XX D cy (Am Y sz) Y Xn) 1 6 (Am Y sz) := by
  refine vx_ofW (cc := cX11_feed) (maxL := 6) (ret := (some .int)) (by decide) rfl ?_
  intro p e s m args below meth c s₁ B hml hno hv
  obtain ⟨hargs, hsz, hW, hK, hC, hf⟩ := hv
  subst hsz
  have hx := B.exec
  have hb := B.bytes
  have hr := B.returns
  have hts : ∀ w ∈ TT, w.before args s = true := fun w h => atoms_spec (ws := Cond.code yX11_feed cX11_feed 6 (some .int) :: TT) B.pre w (List.mem_cons_of_mem _ h)
  have hown : s.vm.findClass RX11 = some m.cls := findClass_of_methodNamed B.named
  have hlocks := B.notSynchronized
  replace hW := Wd_self (sz := s.heap.size) hW
  generalize hAe : Am Y s.heap.size = A at hW hC ⊢
  have hA : ∀ q : Nat, s.heap.size ≤ q → A q := fun q h => by rw [← hAe]; exact Or.inr h
  clear hAe
  have hS : va_S A s.heap s.heap [] := va_S.rf
  obtain ⟨ls, hE, hl⟩ := gm_entry m [.ref v0, .int v1, .int v2, .int v3, .int v4, .int v5] (n := 6) hargs (Nat.le_of_ble_eq_true rfl)
  rw [hE]
  have hl : lv_has ls 6 [(0, .ref v0), (1, .int v1), (2, .int v2), (3, .int v3), (4, .int v4), (5, .int v5)] := hl
  show W p l e rm_X11_feed s m args below meth c s.heap [] 0 0 (vx_MQ below (va_Qi Kn (BG D cy A Y) A) (XX D cy A Y Xn) args s 1 6 A) (F0 m 0 ls [])
  unfold f_X11_feed at hf
  refine lv_aload_n hx hb dX11_feed_0 rfl (lv_at hl 0 rfl) ?_
  obtain ⟨k1, hf⟩ := hf
  refine gm_getI (C := RX11) (T := TX11) (N := 13) (j := 2) hx hb hts inT_11 hown hK hW k1 (by decide) rfl (by decide) rfl (hts _ kw_296) rfl dX11_feed_1 ?_
  refine lv_bipush (v := 20) hx hb dX11_feed_4 (by decide +kernel) ?_
  refine lv_iadd hx hb dX11_feed_6 ?_
  refine lv_sipush (v := 16384) hx hb dX11_feed_7 (by decide +kernel) ?_
  have j18 : ∀ (y2 : Int32) (H : Heap) (locs : List Loc) (ls : Array Slot), lv_has ls 6 [(0, .ref v0), (1, .int v1), (2, .int v2), (3, .int v3), (4, .int v4), (5, .int v5)] → Wd D cy A Y M H → va_S A s.heap H locs → f_X11_feed_18 Y v0 v1 v2 v3 v4 v5 M Kn Xn y2 → W p l e rm_X11_feed s m args below meth c H locs 0 0 (vx_MQ below (va_Qi Kn (BG D cy A Y) A) (XX D cy A Y Xn) args s 1 6 A) (F0 m 18 ls [.int y2]) := by
    intro y2 H locs ls hl hW hS hf
    unfold f_X11_feed_18 at hf
    refine gx_cv (vx_runS (As := [.int y2]) (rest := []) ⟨hx, hb, hml, hown, hts⟩ (m_X11_needState l hlt D cy tq _ Y _ _ _ _) (va_cwS 1 hts (good_S kw_402 kw_403 kw_1 kw_404) rfl rfl rfl (by decide +kernel) ⟨Nat.le_of_ble_eq_true rfl, Nat.le_of_ble_eq_true rfl⟩) (gm_preS hK hW hC hS hA hf) rfl rfl hl.1 rfl (lv_room (Nat.le_of_ble_eq_true rfl)) dX11_feed_18 ⟨Nat.le_of_ble_eq_true rfl, Nat.le_of_ble_eq_true rfl⟩) hW hS hA (fun E M9 H locs ce q9 hW hS hf h1 h2 h3 => gx_out hno hlocks hW hS hf h1 h2 h3 (Nat.le_of_ble_eq_true rfl) (Nat.le_of_ble_eq_true rfl)) (fun M3 H locs hW hS hf => ?_)
    refine lv_aload_n hx hb dX11_feed_21 rfl (lv_at hl 0 rfl) ?_
    obtain ⟨b4, hb4, hf⟩ := hf
    refine gm_getR (C := RX11) (T := TX11) (N := 13) (j := 1) hx hb hts inT_11 hown hK hW k1 (by decide) rfl (by decide) rfl (hts _ kw_295) rfl dX11_feed_22 hb4 ?_
    refine lv_aload_n hx hb dX11_feed_25 rfl (lv_at hl 0 rfl) ?_
    refine gm_getI (C := RX11) (T := TX11) (N := 13) (j := 2) hx hb hts inT_11 hown hK hW k1 (by decide) rfl (by decide) rfl (hts _ kw_296) rfl dX11_feed_26 ?_
    refine lv_iconst (v := 4) hx hb dX11_feed_29 (by decide +kernel) ?_
    refine lv_iload_n hx hb dX11_feed_30 rfl (lv_at hl 1 rfl) ?_
    refine lv_i2l hx hb dX11_feed_31 rfl ?_
    refine gm_cv (va_runS (As := [.ref b4, .int (mI M3 v0 2), .int 4, .long v1.toInt64]) (rest := []) ⟨hx, hb, hml, hown, hts⟩ (m_X1_put l D cy tq _ Y _ _ _ _ _ _) (va_cwS 4 hts (good_S kw_449 kw_450 kw_17 kw_451) rfl rfl rfl (by decide +kernel) ⟨Nat.le_of_ble_eq_true rfl, Nat.le_of_ble_eq_true rfl⟩) (gm_preS hK hW hC hS hA hf) rfl rfl hl.1 rfl (lv_room (Nat.le_of_ble_eq_true rfl)) dX11_feed_32 ⟨Nat.le_of_ble_eq_true rfl, Nat.le_of_ble_eq_true rfl⟩) hW hS hA (fun M5 H locs hW hS hf => ?_)
    refine lv_aload_n hx hb dX11_feed_35 rfl (lv_at hl 0 rfl) ?_
    obtain ⟨b6, hb6, hf⟩ := hf
    refine gm_getR (C := RX11) (T := TX11) (N := 13) (j := 1) hx hb hts inT_11 hown hK hW k1 (by decide) rfl (by decide) rfl (hts _ kw_295) rfl dX11_feed_36 hb6 ?_
    refine lv_aload_n hx hb dX11_feed_39 rfl (lv_at hl 0 rfl) ?_
    refine gm_getI (C := RX11) (T := TX11) (N := 13) (j := 2) hx hb hts inT_11 hown hK hW k1 (by decide) rfl (by decide) rfl (hts _ kw_296) rfl dX11_feed_40 ?_
    refine lv_iconst (v := 4) hx hb dX11_feed_43 (by decide +kernel) ?_
    refine lv_iadd hx hb dX11_feed_44 ?_
    refine lv_iconst (v := 4) hx hb dX11_feed_45 (by decide +kernel) ?_
    refine lv_iload_n hx hb dX11_feed_46 rfl (lv_at hl 2 rfl) ?_
    refine lv_i2l hx hb dX11_feed_47 rfl ?_
    refine gm_cv (va_runS (As := [.ref b6, .int ((mI M5 v0 2) + 4), .int 4, .long v2.toInt64]) (rest := []) ⟨hx, hb, hml, hown, hts⟩ (m_X1_put l D cy tq _ Y _ _ _ _ _ _) (va_cwS 4 hts (good_S kw_449 kw_450 kw_17 kw_451) rfl rfl rfl (by decide +kernel) ⟨Nat.le_of_ble_eq_true rfl, Nat.le_of_ble_eq_true rfl⟩) (gm_preS hK hW hC hS hA hf) rfl rfl hl.1 rfl (lv_room (Nat.le_of_ble_eq_true rfl)) dX11_feed_48 ⟨Nat.le_of_ble_eq_true rfl, Nat.le_of_ble_eq_true rfl⟩) hW hS hA (fun M7 H locs hW hS hf => ?_)
    refine lv_aload_n hx hb dX11_feed_51 rfl (lv_at hl 0 rfl) ?_
    obtain ⟨b8, hb8, hf⟩ := hf
    refine gm_getR (C := RX11) (T := TX11) (N := 13) (j := 1) hx hb hts inT_11 hown hK hW k1 (by decide) rfl (by decide) rfl (hts _ kw_295) rfl dX11_feed_52 hb8 ?_
    refine lv_aload_n hx hb dX11_feed_55 rfl (lv_at hl 0 rfl) ?_
    refine gm_getI (C := RX11) (T := TX11) (N := 13) (j := 2) hx hb hts inT_11 hown hK hW k1 (by decide) rfl (by decide) rfl (hts _ kw_296) rfl dX11_feed_56 ?_
    refine lv_bipush (v := 8) hx hb dX11_feed_59 (by decide +kernel) ?_
    refine lv_iadd hx hb dX11_feed_61 ?_
    refine lv_iconst (v := 4) hx hb dX11_feed_62 (by decide +kernel) ?_
    refine lv_iload_n hx hb dX11_feed_63 rfl (lv_at hl 3 rfl) ?_
    refine lv_i2l hx hb dX11_feed_64 rfl ?_
    refine gm_cv (va_runS (As := [.ref b8, .int ((mI M7 v0 2) + 8), .int 4, .long v3.toInt64]) (rest := []) ⟨hx, hb, hml, hown, hts⟩ (m_X1_put l D cy tq _ Y _ _ _ _ _ _) (va_cwS 4 hts (good_S kw_449 kw_450 kw_17 kw_451) rfl rfl rfl (by decide +kernel) ⟨Nat.le_of_ble_eq_true rfl, Nat.le_of_ble_eq_true rfl⟩) (gm_preS hK hW hC hS hA hf) rfl rfl hl.1 rfl (lv_room (Nat.le_of_ble_eq_true rfl)) dX11_feed_65 ⟨Nat.le_of_ble_eq_true rfl, Nat.le_of_ble_eq_true rfl⟩) hW hS hA (fun M9 H locs hW hS hf => ?_)
    refine lv_aload_n hx hb dX11_feed_68 rfl (lv_at hl 0 rfl) ?_
    obtain ⟨b10, hb10, hf⟩ := hf
    refine gm_getR (C := RX11) (T := TX11) (N := 13) (j := 1) hx hb hts inT_11 hown hK hW k1 (by decide) rfl (by decide) rfl (hts _ kw_295) rfl dX11_feed_69 hb10 ?_
    refine lv_aload_n hx hb dX11_feed_72 rfl (lv_at hl 0 rfl) ?_
    refine gm_getI (C := RX11) (T := TX11) (N := 13) (j := 2) hx hb hts inT_11 hown hK hW k1 (by decide) rfl (by decide) rfl (hts _ kw_296) rfl dX11_feed_73 ?_
    refine lv_bipush (v := 12) hx hb dX11_feed_76 (by decide +kernel) ?_
    refine lv_iadd hx hb dX11_feed_78 ?_
    refine lv_iconst (v := 4) hx hb dX11_feed_79 (by decide +kernel) ?_
    refine lv_iload hx hb dX11_feed_80 (lv_at hl 4 rfl) ?_
    refine lv_i2l hx hb dX11_feed_82 rfl ?_
    refine gm_cv (va_runS (As := [.ref b10, .int ((mI M9 v0 2) + 12), .int 4, .long v4.toInt64]) (rest := []) ⟨hx, hb, hml, hown, hts⟩ (m_X1_put l D cy tq _ Y _ _ _ _ _ _) (va_cwS 4 hts (good_S kw_449 kw_450 kw_17 kw_451) rfl rfl rfl (by decide +kernel) ⟨Nat.le_of_ble_eq_true rfl, Nat.le_of_ble_eq_true rfl⟩) (gm_preS hK hW hC hS hA hf) rfl rfl hl.1 rfl (lv_room (Nat.le_of_ble_eq_true rfl)) dX11_feed_83 ⟨Nat.le_of_ble_eq_true rfl, Nat.le_of_ble_eq_true rfl⟩) hW hS hA (fun M11 H locs hW hS hf => ?_)
    refine lv_aload_n hx hb dX11_feed_86 rfl (lv_at hl 0 rfl) ?_
    obtain ⟨b12, hb12, hf⟩ := hf
    refine gm_getR (C := RX11) (T := TX11) (N := 13) (j := 1) hx hb hts inT_11 hown hK hW k1 (by decide) rfl (by decide) rfl (hts _ kw_295) rfl dX11_feed_87 hb12 ?_
    refine lv_aload_n hx hb dX11_feed_90 rfl (lv_at hl 0 rfl) ?_
    refine gm_getI (C := RX11) (T := TX11) (N := 13) (j := 2) hx hb hts inT_11 hown hK hW k1 (by decide) rfl (by decide) rfl (hts _ kw_296) rfl dX11_feed_91 ?_
    refine lv_bipush (v := 16) hx hb dX11_feed_94 (by decide +kernel) ?_
    refine lv_iadd hx hb dX11_feed_96 ?_
    refine lv_iconst (v := 4) hx hb dX11_feed_97 (by decide +kernel) ?_
    refine lv_iload hx hb dX11_feed_98 (lv_at hl 5 rfl) ?_
    refine lv_i2l hx hb dX11_feed_100 rfl ?_
    refine gm_cv (va_runS (As := [.ref b12, .int ((mI M11 v0 2) + 16), .int 4, .long v5.toInt64]) (rest := []) ⟨hx, hb, hml, hown, hts⟩ (m_X1_put l D cy tq _ Y _ _ _ _ _ _) (va_cwS 4 hts (good_S kw_449 kw_450 kw_17 kw_451) rfl rfl rfl (by decide +kernel) ⟨Nat.le_of_ble_eq_true rfl, Nat.le_of_ble_eq_true rfl⟩) (gm_preS hK hW hC hS hA hf) rfl rfl hl.1 rfl (lv_room (Nat.le_of_ble_eq_true rfl)) dX11_feed_101 ⟨Nat.le_of_ble_eq_true rfl, Nat.le_of_ble_eq_true rfl⟩) hW hS hA (fun M13 H locs hW hS hf => ?_)
    refine lv_aload_n hx hb dX11_feed_104 rfl (lv_at hl 0 rfl) ?_
    refine lv_dup hx hb dX11_feed_105 rfl ?_
    refine gm_getI (C := RX11) (T := TX11) (N := 13) (j := 2) hx hb hts inT_11 hown hK hW k1 (by decide) rfl (by decide) rfl (hts _ kw_296) rfl dX11_feed_106 ?_
    refine lv_bipush (v := 20) hx hb dX11_feed_109 (by decide +kernel) ?_
    refine lv_iadd hx hb dX11_feed_111 ?_
    refine gm_putI (C := RX11) (T := TX11) (N := 13) (j := 2) hx hb hts inT_11 tyX11 tyX11_ok nmX11 hown hK hW hS k1 (by decide) rfl (by decide) rfl (hts _ kw_296) rfl rfl rfl rfl dX11_feed_112 (fun H locs M14 eM14 hW hS => ?_)
    replace hf := hf M14 eM14
    refine lv_aload_n hx hb dX11_feed_115 rfl (lv_at hl 0 rfl) ?_
    refine gm_getI (C := RX11) (T := TX11) (N := 13) (j := 2) hx hb hts inT_11 hown hK hW k1 (by decide) rfl (by decide) rfl (hts _ kw_296) rfl dX11_feed_116 ?_
    exact vx_ret (gm_iret hx hb hr hlocks hW hS hf dX11_feed_119)
  refine lv_icmp_gt (tgt := 17) hx hb dX11_feed_10 (by decide) (fun c15 => ?_) (fun c15 => ?_)
  · replace hf := hf.1 c15
    refine lv_iconst (v := 0) hx hb dX11_feed_17 (by decide +kernel) ?_
    exact j18 _ _ _ _ (lv_sub hl [0, 1, 2, 3, 4, 5] rfl) hW hS hf
  · replace hf := hf.2 c15
    refine lv_iconst (v := 1) hx hb dX11_feed_13 (by decide +kernel) ?_
    refine lv_goto (tgt := 18) hx hb dX11_feed_14 (by decide) ?_
    exact j18 _ _ _ _ (lv_sub hl [0, 1, 2, 3, 4, 5] rfl) hW hS hf

abbrev rm_X11_trim : Room := { frames := 7, cells := 1, slots := 6, locals := 110 }
def f_X11_trim (Y : Ly) (v0 : Nat) (v1 : Int32) (M : Mm) (Kn : Int32 → Mm → Prop) (Xn : String → Mm → Prop) : Prop :=
  yK Y v0 = 11 ∧ (f_X11_isWithin Y v1.toInt64 0 ((mI M v0 2).toInt64) M (fun r3 M2 => (f_X11_needArguments Y r3 M2 (fun M4 => (∀ M5 : Mm, M5 = sI M4 v0 (m1 (mI M4 v0) 2 ((mI M4 v0 2) - v1)) → (Kn (mI M5 v0 2) M5))) Xn)))
set_option maxHeartbeats 4000000 in
set_option maxRecDepth 100000 in
theorem m_X11_trim (l : Launch) (hlt : l.stackTraces = false) (D : va_G) (cy : Cy) (tq sz : Nat) (Y : Ly) (v0 : Nat) (v1 : Int32) (M : Mm) (Kn : Int32 → Mm → Prop) (Xn : String → Mm → Prop) : vx_Met l yX11_trim (Cond.code yX11_trim cX11_trim 2 (some .int) :: TT) rm_X11_trim (PcG D cy tq [.ref v0, .int v1] sz Y M (f_X11_trim Y v0 v1 M Kn Xn)) (va_Qi Kn (BG D cy (Am Y sz) Y) (Am Y sz)) (XX D cy (Am Y sz) Y Xn) 1 6 (Am Y sz) := by
  refine vx_ofW (cc := cX11_trim) (maxL := 2) (ret := (some .int)) (by decide) rfl ?_
  intro p e s m args below meth c s₁ B hml hno hv
  obtain ⟨hargs, hsz, hW, hK, hC, hf⟩ := hv
  subst hsz
  have hx := B.exec
  have hb := B.bytes
  have hr := B.returns
  have hts : ∀ w ∈ TT, w.before args s = true := fun w h => atoms_spec (ws := Cond.code yX11_trim cX11_trim 2 (some .int) :: TT) B.pre w (List.mem_cons_of_mem _ h)
  have hown : s.vm.findClass RX11 = some m.cls := findClass_of_methodNamed B.named
  have hlocks := B.notSynchronized
  replace hW := Wd_self (sz := s.heap.size) hW
  generalize hAe : Am Y s.heap.size = A at hW hC ⊢
  have hA : ∀ q : Nat, s.heap.size ≤ q → A q := fun q h => by rw [← hAe]; exact Or.inr h
  clear hAe
  have hS : va_S A s.heap s.heap [] := va_S.rf
  obtain ⟨ls, hE, hl⟩ := gm_entry m [.ref v0, .int v1] (n := 2) hargs (Nat.le_of_ble_eq_true rfl)
  rw [hE]
  have hl : lv_has ls 2 [(0, .ref v0), (1, .int v1)] := hl
  show W p l e rm_X11_trim s m args below meth c s.heap [] 0 0 (vx_MQ below (va_Qi Kn (BG D cy A Y) A) (XX D cy A Y Xn) args s 1 6 A) (F0 m 0 ls [])
  unfold f_X11_trim at hf
  refine lv_iload_n hx hb dX11_trim_0 rfl (lv_at hl 1 rfl) ?_
  refine lv_i2l hx hb dX11_trim_1 rfl ?_
  refine lv_lconst (v := 0) hx hb dX11_trim_2 (by decide) ?_
  refine lv_aload_n hx hb dX11_trim_3 rfl (lv_at hl 0 rfl) ?_
  obtain ⟨k1, hf⟩ := hf
  refine gm_getI (C := RX11) (T := TX11) (N := 13) (j := 2) hx hb hts inT_11 hown hK hW k1 (by decide) rfl (by decide) rfl (hts _ kw_296) rfl dX11_trim_4 ?_
  refine lv_i2l hx hb dX11_trim_7 rfl ?_
  refine gm_ci (va_runS (As := [.long v1.toInt64, .long 0, .long ((mI M v0 2).toInt64)]) (rest := []) ⟨hx, hb, hml, hown, hts⟩ (m_X11_isWithin l D cy tq _ Y _ _ _ _ _) (va_cwS 3 hts (good_S kw_460 kw_461 kw_1 kw_462) rfl rfl rfl (by decide +kernel) ⟨Nat.le_of_ble_eq_true rfl, Nat.le_of_ble_eq_true rfl⟩) (gm_preS hK hW hC hS hA hf) rfl rfl hl.1 rfl (lv_room (Nat.le_of_ble_eq_true rfl)) dX11_trim_8 ⟨Nat.le_of_ble_eq_true rfl, Nat.le_of_ble_eq_true rfl⟩) hW hS hA (fun r3 M2 H locs hW hS hf => ?_)
  refine gx_cv (vx_runS (As := [.int r3]) (rest := []) ⟨hx, hb, hml, hown, hts⟩ (m_X11_needArguments l hlt D cy tq _ Y _ _ _ _) (va_cwS 1 hts (good_S kw_463 kw_464 kw_1 kw_465) rfl rfl rfl (by decide +kernel) ⟨Nat.le_of_ble_eq_true rfl, Nat.le_of_ble_eq_true rfl⟩) (gm_preS hK hW hC hS hA hf) rfl rfl hl.1 rfl (lv_room (Nat.le_of_ble_eq_true rfl)) dX11_trim_11 ⟨Nat.le_of_ble_eq_true rfl, Nat.le_of_ble_eq_true rfl⟩) hW hS hA (fun E M9 H locs ce q9 hW hS hf h1 h2 h3 => gx_out hno hlocks hW hS hf h1 h2 h3 (Nat.le_of_ble_eq_true rfl) (Nat.le_of_ble_eq_true rfl)) (fun M4 H locs hW hS hf => ?_)
  refine lv_aload_n hx hb dX11_trim_14 rfl (lv_at hl 0 rfl) ?_
  refine lv_dup hx hb dX11_trim_15 rfl ?_
  refine gm_getI (C := RX11) (T := TX11) (N := 13) (j := 2) hx hb hts inT_11 hown hK hW k1 (by decide) rfl (by decide) rfl (hts _ kw_296) rfl dX11_trim_16 ?_
  refine lv_iload_n hx hb dX11_trim_19 rfl (lv_at hl 1 rfl) ?_
  refine lv_isub hx hb dX11_trim_20 ?_
  refine gm_putI (C := RX11) (T := TX11) (N := 13) (j := 2) hx hb hts inT_11 tyX11 tyX11_ok nmX11 hown hK hW hS k1 (by decide) rfl (by decide) rfl (hts _ kw_296) rfl rfl rfl rfl dX11_trim_21 (fun H locs M5 eM5 hW hS => ?_)
  replace hf := hf M5 eM5
  refine lv_aload_n hx hb dX11_trim_24 rfl (lv_at hl 0 rfl) ?_
  refine gm_getI (C := RX11) (T := TX11) (N := 13) (j := 2) hx hb hts inT_11 hown hK hW k1 (by decide) rfl (by decide) rfl (hts _ kw_296) rfl dX11_trim_25 ?_
  exact vx_ret (gm_iret hx hb hr hlocks hW hS hf dX11_trim_28)

abbrev rm_X11_spoil : Room := { frames := 7, cells := 1, slots := 6, locals := 110 }
def f_X11_spoil_33 (Y : Ly) (v0 : Nat) (v1 : Int32) (v2 : Int32) (Kn : Int32 → Mm → Prop) (Xn : String → Mm → Prop) (y4 : Int32) (M5 : Mm) : Prop :=
  f_X11_needArguments Y y4 M5 (fun M6 => (∃ b7 : Nat, mR M6 v0 1 = some b7 ∧ (yK Y b7 = 100 ∧ (vp_in v1 (yN Y b7) ∧ (vp_in v1 (yN Y b7) ∧ (∀ M11 : Mm, M11 = sI M6 b7 (m1 (mI M6 b7) v1.toNatClampNeg ((((mI M6 b7 v1.toNatClampNeg) ^^^ v2.toInt8.toInt32).toInt8.toInt32).toInt8.toInt32)) → (∃ b12 : Nat, mR M11 v0 1 = some b12 ∧ (yK Y b12 = 100 ∧ (vp_in v1 (yN Y b12) ∧ (Kn ((mI M11 b12 v1.toNatClampNeg) &&& 255) M11)))))))))) Xn
def f_X11_spoil_32 (Y : Ly) (v0 : Nat) (v1 : Int32) (v2 : Int32) (Kn : Int32 → Mm → Prop) (Xn : String → Mm → Prop) (M15 : Mm) : Prop :=
  f_X11_spoil_33 Y v0 v1 v2 Kn Xn 0 M15
def f_X11_spoil (Y : Ly) (v0 : Nat) (v1 : Int32) (v2 : Int32) (M : Mm) (Kn : Int32 → Mm → Prop) (Xn : String → Mm → Prop) : Prop :=
  yK Y v0 = 11 ∧ (f_X11_isWithin Y v1.toInt64 0 (((mI M v0 2) - 1).toInt64) M (fun r3 M2 => ((r3 = 0 → (f_X11_spoil_32 Y v0 v1 v2 Kn Xn M2)) ∧ (¬ (r3 = 0) → (f_X11_isWithin Y v2.toInt64 0 255 M2 (fun r18 M17 => ((r18 = 0 → (f_X11_spoil_32 Y v0 v1 v2 Kn Xn M17)) ∧ (¬ (r18 = 0) → (f_X11_spoil_33 Y v0 v1 v2 Kn Xn 1 M17)))))))))
set_option maxHeartbeats 4000000 in
set_option maxRecDepth 100000 in
theorem m_X11_spoil (l : Launch) (hlt : l.stackTraces = false) (D : va_G) (cy : Cy) (tq sz : Nat) (Y : Ly) (v0 : Nat) (v1 : Int32) (v2 : Int32) (M : Mm) (Kn : Int32 → Mm → Prop) (Xn : String → Mm → Prop) : vx_Met l yX11_spoil (Cond.code yX11_spoil cX11_spoil 3 (some .int) :: TT) rm_X11_spoil (PcG D cy tq [.ref v0, .int v1, .int v2] sz Y M (f_X11_spoil Y v0 v1 v2 M Kn Xn)) (va_Qi Kn (BG D cy (Am Y sz) Y) (Am Y sz)) (XX D cy (Am Y sz) Y Xn) 1 6 (Am Y sz) := by
  refine vx_ofW (cc := cX11_spoil) (maxL := 3) (ret := (some .int)) (by decide) rfl ?_
  intro p e s m args below meth c s₁ B hml hno hv
  obtain ⟨hargs, hsz, hW, hK, hC, hf⟩ := hv
  subst hsz
  have hx := B.exec
  have hb := B.bytes
  have hr := B.returns
  have hts : ∀ w ∈ TT, w.before args s = true := fun w h => atoms_spec (ws := Cond.code yX11_spoil cX11_spoil 3 (some .int) :: TT) B.pre w (List.mem_cons_of_mem _ h)
  have hown : s.vm.findClass RX11 = some m.cls := findClass_of_methodNamed B.named
  have hlocks := B.notSynchronized
  replace hW := Wd_self (sz := s.heap.size) hW
  generalize hAe : Am Y s.heap.size = A at hW hC ⊢
  have hA : ∀ q : Nat, s.heap.size ≤ q → A q := fun q h => by rw [← hAe]; exact Or.inr h
  clear hAe
  have hS : va_S A s.heap s.heap [] := va_S.rf
  obtain ⟨ls, hE, hl⟩ := gm_entry m [.ref v0, .int v1, .int v2] (n := 3) hargs (Nat.le_of_ble_eq_true rfl)
  rw [hE]
  have hl : lv_has ls 3 [(0, .ref v0), (1, .int v1), (2, .int v2)] := hl
  show W p l e rm_X11_spoil s m args below meth c s.heap [] 0 0 (vx_MQ below (va_Qi Kn (BG D cy A Y) A) (XX D cy A Y Xn) args s 1 6 A) (F0 m 0 ls [])
  unfold f_X11_spoil at hf
  refine lv_iload_n hx hb dX11_spoil_0 rfl (lv_at hl 1 rfl) ?_
  refine lv_i2l hx hb dX11_spoil_1 rfl ?_
  refine lv_lconst (v := 0) hx hb dX11_spoil_2 (by decide) ?_
  refine lv_aload_n hx hb dX11_spoil_3 rfl (lv_at hl 0 rfl) ?_
  obtain ⟨k1, hf⟩ := hf
  refine gm_getI (C := RX11) (T := TX11) (N := 13) (j := 2) hx hb hts inT_11 hown hK hW k1 (by decide) rfl (by decide) rfl (hts _ kw_296) rfl dX11_spoil_4 ?_
  refine lv_iconst (v := 1) hx hb dX11_spoil_7 (by decide +kernel) ?_
  refine lv_isub hx hb dX11_spoil_8 ?_
  refine lv_i2l hx hb dX11_spoil_9 rfl ?_
  refine gm_ci (va_runS (As := [.long v1.toInt64, .long 0, .long (((mI M v0 2) - 1).toInt64)]) (rest := []) ⟨hx, hb, hml, hown, hts⟩ (m_X11_isWithin l D cy tq _ Y _ _ _ _ _) (va_cwS 3 hts (good_S kw_460 kw_461 kw_1 kw_462) rfl rfl rfl (by decide +kernel) ⟨Nat.le_of_ble_eq_true rfl, Nat.le_of_ble_eq_true rfl⟩) (gm_preS hK hW hC hS hA hf) rfl rfl hl.1 rfl (lv_room (Nat.le_of_ble_eq_true rfl)) dX11_spoil_10 ⟨Nat.le_of_ble_eq_true rfl, Nat.le_of_ble_eq_true rfl⟩) hW hS hA (fun r3 M2 H locs hW hS hf => ?_)
  have j33 : ∀ (y4 : Int32) (M5 : Mm) (H : Heap) (locs : List Loc) (ls : Array Slot), lv_has ls 3 [(0, .ref v0), (1, .int v1), (2, .int v2)] → Wd D cy A Y M5 H → va_S A s.heap H locs → f_X11_spoil_33 Y v0 v1 v2 Kn Xn y4 M5 → W p l e rm_X11_spoil s m args below meth c H locs 0 0 (vx_MQ below (va_Qi Kn (BG D cy A Y) A) (XX D cy A Y Xn) args s 1 6 A) (F0 m 33 ls [.int y4]) := by
    intro y4 M5 H locs ls hl hW hS hf
    unfold f_X11_spoil_33 at hf
    refine gx_cv (vx_runS (As := [.int y4]) (rest := []) ⟨hx, hb, hml, hown, hts⟩ (m_X11_needArguments l hlt D cy tq _ Y _ _ _ _) (va_cwS 1 hts (good_S kw_463 kw_464 kw_1 kw_465) rfl rfl rfl (by decide +kernel) ⟨Nat.le_of_ble_eq_true rfl, Nat.le_of_ble_eq_true rfl⟩) (gm_preS hK hW hC hS hA hf) rfl rfl hl.1 rfl (lv_room (Nat.le_of_ble_eq_true rfl)) dX11_spoil_33 ⟨Nat.le_of_ble_eq_true rfl, Nat.le_of_ble_eq_true rfl⟩) hW hS hA (fun E M9 H locs ce q9 hW hS hf h1 h2 h3 => gx_out hno hlocks hW hS hf h1 h2 h3 (Nat.le_of_ble_eq_true rfl) (Nat.le_of_ble_eq_true rfl)) (fun M6 H locs hW hS hf => ?_)
    refine lv_aload_n hx hb dX11_spoil_36 rfl (lv_at hl 0 rfl) ?_
    obtain ⟨b7, hb7, hf⟩ := hf
    refine gm_getR (C := RX11) (T := TX11) (N := 13) (j := 1) hx hb hts inT_11 hown hK hW k1 (by decide) rfl (by decide) rfl (hts _ kw_295) rfl dX11_spoil_37 hb7 ?_
    refine lv_iload_n hx hb dX11_spoil_40 rfl (lv_at hl 1 rfl) ?_
    refine lv_dup2_11 hx hb dX11_spoil_41 rfl rfl ?_
    obtain ⟨k8, hf⟩ := hf
    obtain ⟨h9, hf⟩ := hf
    refine gm_bald hx hb hK hW k8 h9 dX11_spoil_42 ?_
    refine lv_iload_n hx hb dX11_spoil_43 rfl (lv_at hl 2 rfl) ?_
    refine lv_i2b hx hb dX11_spoil_44 rfl ?_
    refine lv_ixor hx hb dX11_spoil_45 ?_
    refine lv_i2b hx hb dX11_spoil_46 rfl ?_
    obtain ⟨h10, hf⟩ := hf
    refine gm_bast hx hb hK hW hS k8 h10 dX11_spoil_47 (fun H locs M11 eM11 hW hS => ?_)
    replace hf := hf M11 eM11
    refine lv_aload_n hx hb dX11_spoil_48 rfl (lv_at hl 0 rfl) ?_
    obtain ⟨b12, hb12, hf⟩ := hf
    refine gm_getR (C := RX11) (T := TX11) (N := 13) (j := 1) hx hb hts inT_11 hown hK hW k1 (by decide) rfl (by decide) rfl (hts _ kw_295) rfl dX11_spoil_49 hb12 ?_
    refine lv_iload_n hx hb dX11_spoil_52 rfl (lv_at hl 1 rfl) ?_
    obtain ⟨k13, hf⟩ := hf
    obtain ⟨h14, hf⟩ := hf
    refine gm_bald hx hb hK hW k13 h14 dX11_spoil_53 ?_
    refine lv_sipush (v := 255) hx hb dX11_spoil_54 (by decide +kernel) ?_
    refine lv_iand hx hb dX11_spoil_57 ?_
    exact vx_ret (gm_iret hx hb hr hlocks hW hS hf dX11_spoil_58)
  have j32 : ∀ (M15 : Mm) (H : Heap) (locs : List Loc) (ls : Array Slot), lv_has ls 3 [(0, .ref v0), (1, .int v1), (2, .int v2)] → Wd D cy A Y M15 H → va_S A s.heap H locs → f_X11_spoil_32 Y v0 v1 v2 Kn Xn M15 → W p l e rm_X11_spoil s m args below meth c H locs 0 0 (vx_MQ below (va_Qi Kn (BG D cy A Y) A) (XX D cy A Y Xn) args s 1 6 A) (F0 m 32 ls []) := by
    intro M15 H locs ls hl hW hS hf
    unfold f_X11_spoil_32 at hf
    refine lv_iconst (v := 0) hx hb dX11_spoil_32 (by decide +kernel) ?_
    exact j33 _ _ _ _ _ (lv_sub hl [0, 1, 2] rfl) hW hS hf
  refine lv_if_eq (tgt := 32) hx hb dX11_spoil_13 (by decide) (fun c16 => ?_) (fun c16 => ?_)
  · replace hf := hf.1 c16
    exact j32 _ _ _ _ (lv_sub hl [0, 1, 2] rfl) hW hS hf
  · replace hf := hf.2 c16
    refine lv_iload_n hx hb dX11_spoil_16 rfl (lv_at hl 2 rfl) ?_
    refine lv_i2l hx hb dX11_spoil_17 rfl ?_
    refine lv_lconst (v := 0) hx hb dX11_spoil_18 (by decide) ?_
    refine lv_ldc2 (v := 255) hx hb hown (hts _ kw_486) dX11_spoil_19 ?_
    refine gm_ci (va_runS (As := [.long v2.toInt64, .long 0, .long 255]) (rest := []) ⟨hx, hb, hml, hown, hts⟩ (m_X11_isWithin l D cy tq _ Y _ _ _ _ _) (va_cwS 3 hts (good_S kw_460 kw_461 kw_1 kw_462) rfl rfl rfl (by decide +kernel) ⟨Nat.le_of_ble_eq_true rfl, Nat.le_of_ble_eq_true rfl⟩) (gm_preS hK hW hC hS hA hf) rfl rfl hl.1 rfl (lv_room (Nat.le_of_ble_eq_true rfl)) dX11_spoil_22 ⟨Nat.le_of_ble_eq_true rfl, Nat.le_of_ble_eq_true rfl⟩) hW hS hA (fun r18 M17 H locs hW hS hf => ?_)
    refine lv_if_eq (tgt := 32) hx hb dX11_spoil_25 (by decide) (fun c19 => ?_) (fun c19 => ?_)
    · replace hf := hf.1 c19
      exact j32 _ _ _ _ (lv_sub hl [0, 1, 2] rfl) hW hS hf
    · replace hf := hf.2 c19
      refine lv_iconst (v := 1) hx hb dX11_spoil_28 (by decide +kernel) ?_
      refine lv_goto (tgt := 33) hx hb dX11_spoil_29 (by decide) ?_
      exact j33 _ _ _ _ _ (lv_sub hl [0, 1, 2] rfl) hW hS hf

abbrev rm_X11_record : Room := { frames := 7, cells := 3, slots := 18, locals := 182 }
def L_X11_record_91 (Y : Ly) (v0 : Nat) (v1 : Int32) (v2 : Int64) (v4 : Int32) (v5 : Int64) (v7 : Int32) (v8 : Int32) (Kn : Int32 → Mm → Prop) (x17 : Int32) (M18 : Mm) (again91 : Int32 → Mm → Prop) : Prop :=
  (v1 ≤ x17 → (∃ b20 : Nat, mR M18 v0 3 = some b20 ∧ (yK Y b20 = 4 ∧ (Kn (mI M18 b20 2) M18)))) ∧ (¬ (v1 ≤ x17) → (∃ b22 : Nat, mR M18 v0 3 = some b22 ∧ (yK Y b22 = 4 ∧ (f_X4_add Y b22 (v2 + x17.toInt64) v4 (v5 + x17.toInt64) v7 (v8 + x17) M18 (fun M23 => (∀ x25 : Int32, x25 = x17 + 1 → (again91 x25 M23)))))))
def f_X11_record_68 (Y : Ly) (v0 : Nat) (v1 : Int32) (v2 : Int64) (v4 : Int32) (v5 : Int64) (v7 : Int32) (v8 : Int32) (Kn : Int32 → Mm → Prop) (Xn : String → Mm → Prop) (y8 : Int32) (M9 : Mm) : Prop :=
  f_X11_needArguments Y y8 M9 (fun M10 => (yK Y v0 = 11 ∧ (∃ b12 : Nat, mR M10 v0 3 = some b12 ∧ (yK Y b12 = 4 ∧ (f_X4_hasRoom Y b12 v1 v4 v7 v8 M10 (fun r14 M13 => (f_X11_needState Y r14 M13 (fun M16 => (∃ n, LOOP2 (L_X11_record_91 Y v0 v1 v2 v4 v5 v7 v8 Kn) n 0 M16)) Xn))))))) Xn
def f_X11_record_67 (Y : Ly) (v0 : Nat) (v1 : Int32) (v2 : Int64) (v4 : Int32) (v5 : Int64) (v7 : Int32) (v8 : Int32) (Kn : Int32 → Mm → Prop) (Xn : String → Mm → Prop) (M26 : Mm) : Prop :=
  f_X11_record_68 Y v0 v1 v2 v4 v5 v7 v8 Kn Xn 0 M26
def f_X11_record_32 (Y : Ly) (v0 : Nat) (v1 : Int32) (v2 : Int64) (v4 : Int32) (v5 : Int64) (v7 : Int32) (v8 : Int32) (Kn : Int32 → Mm → Prop) (Xn : String → Mm → Prop) (y3 : Int32) (M4 : Mm) : Prop :=
  f_X11_needArguments Y y3 M4 (fun M5 => (f_X11_isWithin Y v7.toInt64 (-1) 300 M5 (fun r7 M6 => ((r7 = 0 → (f_X11_record_67 Y v0 v1 v2 v4 v5 v7 v8 Kn Xn M6)) ∧ (¬ (r7 = 0) → (f_X11_isWithin Y v8.toInt64 0 1000000 M6 (fun r29 M28 => ((r29 = 0 → (f_X11_record_67 Y v0 v1 v2 v4 v5 v7 v8 Kn Xn M28)) ∧ (¬ (r29 = 0) → (f_X11_record_68 Y v0 v1 v2 v4 v5 v7 v8 Kn Xn 1 M28)))))))))) Xn
def f_X11_record_31 (Y : Ly) (v0 : Nat) (v1 : Int32) (v2 : Int64) (v4 : Int32) (v5 : Int64) (v7 : Int32) (v8 : Int32) (Kn : Int32 → Mm → Prop) (Xn : String → Mm → Prop) (M31 : Mm) : Prop :=
  f_X11_record_32 Y v0 v1 v2 v4 v5 v7 v8 Kn Xn 0 M31
def f_X11_record (Y : Ly) (v0 : Nat) (v1 : Int32) (v2 : Int64) (v4 : Int32) (v5 : Int64) (v7 : Int32) (v8 : Int32) (M : Mm) (Kn : Int32 → Mm → Prop) (Xn : String → Mm → Prop) : Prop :=
  f_X11_isWithin Y v1.toInt64 1 100 M (fun r2 M1 => ((r2 = 0 → (f_X11_record_31 Y v0 v1 v2 v4 v5 v7 v8 Kn Xn M1)) ∧ (¬ (r2 = 0) → (f_X11_isWithin Y v4.toInt64 (-1) 8 M1 (fun r34 M33 => ((r34 = 0 → (f_X11_record_31 Y v0 v1 v2 v4 v5 v7 v8 Kn Xn M33)) ∧ (¬ (r34 = 0) → (f_X11_record_32 Y v0 v1 v2 v4 v5 v7 v8 Kn Xn 1 M33))))))))
set_option maxHeartbeats 4000000 in
set_option maxRecDepth 100000 in
theorem m_X11_record (l : Launch) (hlt : l.stackTraces = false) (D : va_G) (cy : Cy) (tq sz : Nat) (Y : Ly) (v0 : Nat) (v1 : Int32) (v2 : Int64) (v4 : Int32) (v5 : Int64) (v7 : Int32) (v8 : Int32) (M : Mm) (Kn : Int32 → Mm → Prop) (Xn : String → Mm → Prop) : vx_Met l yX11_record (Cond.code yX11_record cX11_record 10 (some .int) :: TT) rm_X11_record (PcG D cy tq [.ref v0, .int v1, .long v2, .int v4, .long v5, .int v7, .int v8] sz Y M (f_X11_record Y v0 v1 v2 v4 v5 v7 v8 M Kn Xn)) (va_Qi Kn (BG D cy (Am Y sz) Y) (Am Y sz)) (XX D cy (Am Y sz) Y Xn) 3 18 (Am Y sz) := by
  refine vx_ofW (cc := cX11_record) (maxL := 10) (ret := (some .int)) (by decide) rfl ?_
  intro p e s m args below meth c s₁ B hml hno hv
  obtain ⟨hargs, hsz, hW, hK, hC, hf⟩ := hv
  subst hsz
  have hx := B.exec
  have hb := B.bytes
  have hr := B.returns
  have hts : ∀ w ∈ TT, w.before args s = true := fun w h => atoms_spec (ws := Cond.code yX11_record cX11_record 10 (some .int) :: TT) B.pre w (List.mem_cons_of_mem _ h)
  have hown : s.vm.findClass RX11 = some m.cls := findClass_of_methodNamed B.named
  have hlocks := B.notSynchronized
  replace hW := Wd_self (sz := s.heap.size) hW
  generalize hAe : Am Y s.heap.size = A at hW hC ⊢
  have hA : ∀ q : Nat, s.heap.size ≤ q → A q := fun q h => by rw [← hAe]; exact Or.inr h
  clear hAe
  have hS : va_S A s.heap s.heap [] := va_S.rf
  obtain ⟨ls, hE, hl⟩ := gm_entry m [.ref v0, .int v1, .long v2, .int v4, .long v5, .int v7, .int v8] (n := 10) hargs (Nat.le_of_ble_eq_true rfl)
  rw [hE]
  have hl : lv_has ls 10 [(0, .ref v0), (1, .int v1), (2, .long v2), (4, .int v4), (5, .long v5), (7, .int v7), (8, .int v8)] := hl
  show W p l e rm_X11_record s m args below meth c s.heap [] 0 0 (vx_MQ below (va_Qi Kn (BG D cy A Y) A) (XX D cy A Y Xn) args s 3 18 A) (F0 m 0 ls [])
  unfold f_X11_record at hf
  refine lv_iload_n hx hb dX11_record_0 rfl (lv_at hl 1 rfl) ?_
  refine lv_i2l hx hb dX11_record_1 rfl ?_
  refine lv_lconst (v := 1) hx hb dX11_record_2 (by decide) ?_
  refine lv_ldc2 (v := 100) hx hb hown (hts _ kw_494) dX11_record_3 ?_
  refine gm_ci (va_runS (As := [.long v1.toInt64, .long 1, .long 100]) (rest := []) ⟨hx, hb, hml, hown, hts⟩ (m_X11_isWithin l D cy tq _ Y _ _ _ _ _) (va_cwS 3 hts (good_S kw_460 kw_461 kw_1 kw_462) rfl rfl rfl (by decide +kernel) ⟨Nat.le_of_ble_eq_true rfl, Nat.le_of_ble_eq_true rfl⟩) (gm_preS hK hW hC hS hA hf) rfl rfl hl.1 rfl (lv_room (Nat.le_of_ble_eq_true rfl)) dX11_record_6 ⟨Nat.le_of_ble_eq_true rfl, Nat.le_of_ble_eq_true rfl⟩) hW hS hA (fun r2 M1 H locs hW hS hf => ?_)
  have j32 : ∀ (y3 : Int32) (M4 : Mm) (H : Heap) (locs : List Loc) (ls : Array Slot), lv_has ls 10 [(0, .ref v0), (1, .int v1), (2, .long v2), (4, .int v4), (5, .long v5), (7, .int v7), (8, .int v8)] → Wd D cy A Y M4 H → va_S A s.heap H locs → f_X11_record_32 Y v0 v1 v2 v4 v5 v7 v8 Kn Xn y3 M4 → W p l e rm_X11_record s m args below meth c H locs 0 0 (vx_MQ below (va_Qi Kn (BG D cy A Y) A) (XX D cy A Y Xn) args s 3 18 A) (F0 m 32 ls [.int y3]) := by
    intro y3 M4 H locs ls hl hW hS hf
    unfold f_X11_record_32 at hf
    refine gx_cv (vx_runS (As := [.int y3]) (rest := []) ⟨hx, hb, hml, hown, hts⟩ (m_X11_needArguments l hlt D cy tq _ Y _ _ _ _) (va_cwS 1 hts (good_S kw_463 kw_464 kw_1 kw_465) rfl rfl rfl (by decide +kernel) ⟨Nat.le_of_ble_eq_true rfl, Nat.le_of_ble_eq_true rfl⟩) (gm_preS hK hW hC hS hA hf) rfl rfl hl.1 rfl (lv_room (Nat.le_of_ble_eq_true rfl)) dX11_record_32 ⟨Nat.le_of_ble_eq_true rfl, Nat.le_of_ble_eq_true rfl⟩) hW hS hA (fun E M9 H locs ce q9 hW hS hf h1 h2 h3 => gx_out hno hlocks hW hS hf h1 h2 h3 (Nat.le_of_ble_eq_true rfl) (Nat.le_of_ble_eq_true rfl)) (fun M5 H locs hW hS hf => ?_)
    refine lv_iload hx hb dX11_record_35 (lv_at hl 5 rfl) ?_
    refine lv_i2l hx hb dX11_record_37 rfl ?_
    refine lv_ldc2 (v := -1) hx hb hown (hts _ kw_495) dX11_record_38 ?_
    refine lv_ldc2 (v := 300) hx hb hown (hts _ kw_497) dX11_record_41 ?_
    refine gm_ci (va_runS (As := [.long v7.toInt64, .long (-1), .long 300]) (rest := []) ⟨hx, hb, hml, hown, hts⟩ (m_X11_isWithin l D cy tq _ Y _ _ _ _ _) (va_cwS 3 hts (good_S kw_460 kw_461 kw_1 kw_462) rfl rfl rfl (by decide +kernel) ⟨Nat.le_of_ble_eq_true rfl, Nat.le_of_ble_eq_true rfl⟩) (gm_preS hK hW hC hS hA hf) rfl rfl hl.1 rfl (lv_room (Nat.le_of_ble_eq_true rfl)) dX11_record_44 ⟨Nat.le_of_ble_eq_true rfl, Nat.le_of_ble_eq_true rfl⟩) hW hS hA (fun r7 M6 H locs hW hS hf => ?_)
    have j68 : ∀ (y8 : Int32) (M9 : Mm) (H : Heap) (locs : List Loc) (ls : Array Slot), lv_has ls 10 [(0, .ref v0), (1, .int v1), (2, .long v2), (4, .int v4), (5, .long v5), (7, .int v7), (8, .int v8)] → Wd D cy A Y M9 H → va_S A s.heap H locs → f_X11_record_68 Y v0 v1 v2 v4 v5 v7 v8 Kn Xn y8 M9 → W p l e rm_X11_record s m args below meth c H locs 1 6 (vx_MQ below (va_Qi Kn (BG D cy A Y) A) (XX D cy A Y Xn) args s 3 18 A) (F0 m 68 ls [.int y8]) := by
      intro y8 M9 H locs ls hl hW hS hf
      unfold f_X11_record_68 at hf
      refine gx_cv (vx_runS (As := [.int y8]) (rest := []) ⟨hx, hb, hml, hown, hts⟩ (m_X11_needArguments l hlt D cy tq _ Y _ _ _ _) (va_cwS 1 hts (good_S kw_463 kw_464 kw_1 kw_465) rfl rfl rfl (by decide +kernel) ⟨Nat.le_of_ble_eq_true rfl, Nat.le_of_ble_eq_true rfl⟩) (gm_preS hK hW hC hS hA hf) rfl rfl hl.1 rfl (lv_room (Nat.le_of_ble_eq_true rfl)) dX11_record_68 ⟨Nat.le_of_ble_eq_true rfl, Nat.le_of_ble_eq_true rfl⟩) hW hS hA (fun E M9 H locs ce q9 hW hS hf h1 h2 h3 => gx_out hno hlocks hW hS hf h1 h2 h3 (Nat.le_of_ble_eq_true rfl) (Nat.le_of_ble_eq_true rfl)) (fun M10 H locs hW hS hf => ?_)
      refine lv_aload_n hx hb dX11_record_71 rfl (lv_at hl 0 rfl) ?_
      obtain ⟨k11, hf⟩ := hf
      obtain ⟨b12, hb12, hf⟩ := hf
      refine gm_getR (C := RX11) (T := TX11) (N := 13) (j := 3) hx hb hts inT_11 hown hK hW k11 (by decide) rfl (by decide) rfl (hts _ kw_297) rfl dX11_record_72 hb12 ?_
      refine lv_iload_n hx hb dX11_record_75 rfl (lv_at hl 1 rfl) ?_
      refine lv_iload hx hb dX11_record_76 (lv_at hl 3 rfl) ?_
      refine lv_iload hx hb dX11_record_78 (lv_at hl 5 rfl) ?_
      refine lv_iload hx hb dX11_record_80 (lv_at hl 6 rfl) ?_
      obtain ⟨k15, hf⟩ := hf
      refine gm_ci (va_runV (As := [.int v1, .int v4, .int v7, .int v8]) (rest := []) ⟨hx, hb, hml, hown, hts⟩ (m_X4_hasRoom l D cy tq _ Y _ _ _ _ _ _ _) (cwV 4 hts (good_V kw_499 kw_500 kw_501 kw_2 kw_502) rfl rfl rfl (by decide +kernel) ⟨Nat.le_of_ble_eq_true rfl, Nat.le_of_ble_eq_true rfl⟩) (gm_preV hK hW hC hS hA k15 (by decide) (q := (RX4, TX4, 4)) rfl rfl hf) rfl rfl hl.1 rfl (lv_room (Nat.le_of_ble_eq_true rfl)) dX11_record_82 ⟨Nat.le_of_ble_eq_true rfl, Nat.le_of_ble_eq_true rfl⟩) hW hS hA (fun r14 M13 H locs hW hS hf => ?_)
      refine gx_cv (vx_runS (As := [.int r14]) (rest := []) ⟨hx, hb, hml, hown, hts⟩ (m_X11_needState l hlt D cy tq _ Y _ _ _ _) (va_cwS 1 hts (good_S kw_402 kw_403 kw_1 kw_404) rfl rfl rfl (by decide +kernel) ⟨Nat.le_of_ble_eq_true rfl, Nat.le_of_ble_eq_true rfl⟩) (gm_preS hK hW hC hS hA hf) rfl rfl hl.1 rfl (lv_room (Nat.le_of_ble_eq_true rfl)) dX11_record_85 ⟨Nat.le_of_ble_eq_true rfl, Nat.le_of_ble_eq_true rfl⟩) hW hS hA (fun E M9 H locs ce q9 hW hS hf h1 h2 h3 => gx_out hno hlocks hW hS hf h1 h2 h3 (Nat.le_of_ble_eq_true rfl) (Nat.le_of_ble_eq_true rfl)) (fun M16 H locs hW hS hf => ?_)
      refine lv_iconst (v := 0) hx hb dX11_record_88 (by decide +kernel) ?_
      refine lv_istore (lv' := [(9, .int 0), (0, .ref v0), (1, .int v1), (2, .long v2), (4, .int v4), (5, .long v5), (7, .int v7), (8, .int v8)]) hx hb dX11_record_89 hl (by decide) rfl (fun ls hl => ?_)
      obtain ⟨n91, hf⟩ := hf
      have lp91 : ∀ (n91 : Nat) (x17 : Int32) (M18 : Mm) (H : Heap) (locs : List Loc) (ls : Array Slot), lv_has ls 10 [(0, .ref v0), (1, .int v1), (2, .long v2), (4, .int v4), (5, .long v5), (7, .int v7), (8, .int v8), (9, .int x17)] → Wd D cy A Y M18 H → va_S A s.heap H locs → LOOP2 (L_X11_record_91 Y v0 v1 v2 v4 v5 v7 v8 Kn) n91 x17 M18 → W p l e rm_X11_record s m args below meth c H locs 3 18 (vx_MQ below (va_Qi Kn (BG D cy A Y) A) (XX D cy A Y Xn) args s 3 18 A) (F0 m 91 ls []) := by
        intro n91
        induction n91 with
        | zero => intro x17 M18 H locs ls hl hW hS hf; exact hf.elim
        | succ n91 ih91 =>
          intro x17 M18 H locs ls hl hW hS hf
          replace hf : L_X11_record_91 Y v0 v1 v2 v4 v5 v7 v8 Kn x17 M18 (LOOP2 (L_X11_record_91 Y v0 v1 v2 v4 v5 v7 v8 Kn) n91) := hf
          unfold L_X11_record_91 at hf
          refine lv_iload hx hb dX11_record_91 (lv_at hl 7 rfl) ?_
          refine lv_iload_n hx hb dX11_record_93 rfl (lv_at hl 1 rfl) ?_
          refine lv_icmp_ge (tgt := 130) hx hb dX11_record_94 (by decide) (fun c19 => ?_) (fun c19 => ?_)
          · replace hf := hf.1 c19
            refine lv_aload_n hx hb dX11_record_130 rfl (lv_at hl 0 rfl) ?_
            obtain ⟨b20, hb20, hf⟩ := hf
            refine gm_getR (C := RX11) (T := TX11) (N := 13) (j := 3) hx hb hts inT_11 hown hK hW k11 (by decide) rfl (by decide) rfl (hts _ kw_297) rfl dX11_record_131 hb20 ?_
            obtain ⟨k21, hf⟩ := hf
            refine gm_getI (C := RX4) (T := TX4) (N := 4) (j := 2) hx hb hts inT_4 hown hK hW k21 (by decide) rfl (by decide) rfl (hts _ kw_48) rfl dX11_record_134 ?_
            exact vx_ret (gm_iret hx hb hr hlocks hW hS hf dX11_record_137)
          · replace hf := hf.2 c19
            refine lv_aload_n hx hb dX11_record_97 rfl (lv_at hl 0 rfl) ?_
            obtain ⟨b22, hb22, hf⟩ := hf
            refine gm_getR (C := RX11) (T := TX11) (N := 13) (j := 3) hx hb hts inT_11 hown hK hW k11 (by decide) rfl (by decide) rfl (hts _ kw_297) rfl dX11_record_98 hb22 ?_
            refine lv_lload_n hx hb dX11_record_101 rfl (lv_at hl 2 rfl) ?_
            refine lv_iload hx hb dX11_record_102 (lv_at hl 7 rfl) ?_
            refine lv_i2l hx hb dX11_record_104 rfl ?_
            refine lv_ladd hx hb dX11_record_105 ?_
            refine lv_iload hx hb dX11_record_106 (lv_at hl 3 rfl) ?_
            refine lv_lload hx hb dX11_record_108 (lv_at hl 4 rfl) ?_
            refine lv_iload hx hb dX11_record_110 (lv_at hl 7 rfl) ?_
            refine lv_i2l hx hb dX11_record_112 rfl ?_
            refine lv_ladd hx hb dX11_record_113 ?_
            refine lv_iload hx hb dX11_record_114 (lv_at hl 5 rfl) ?_
            refine lv_iload hx hb dX11_record_116 (lv_at hl 6 rfl) ?_
            refine lv_iload hx hb dX11_record_118 (lv_at hl 7 rfl) ?_
            refine lv_iadd hx hb dX11_record_120 ?_
            obtain ⟨k24, hf⟩ := hf
            refine gm_cv (va_runV (As := [.long (v2 + x17.toInt64), .int v4, .long (v5 + x17.toInt64), .int v7, .int (v8 + x17)]) (rest := []) ⟨hx, hb, hml, hown, hts⟩ (m_X4_add l D cy tq _ Y _ _ _ _ _ _ _ _) (cwV 5 hts (good_V kw_513 kw_514 kw_515 kw_2 kw_516) rfl rfl rfl (by decide +kernel) ⟨Nat.le_of_ble_eq_true rfl, Nat.le_of_ble_eq_true rfl⟩) (gm_preV hK hW hC hS hA k24 (by decide) (q := (RX4, TX4, 4)) rfl rfl hf) rfl rfl hl.1 rfl (lv_room (Nat.le_of_ble_eq_true rfl)) dX11_record_121 ⟨Nat.le_of_ble_eq_true rfl, Nat.le_of_ble_eq_true rfl⟩) hW hS hA (fun M23 H locs hW hS hf => ?_)
            obtain ⟨x25, ex25⟩ : ∃ y : Int32, y = x17 + 1 := ⟨_, rfl⟩
            replace hf := hf x25 ex25
            refine lv_iinc (v := x25) (lv' := [(9, .int x25), (0, .ref v0), (1, .int v1), (2, .long v2), (4, .int v4), (5, .long v5), (7, .int v7), (8, .int v8)]) hx hb dX11_record_124 hl (k := 7) rfl (by rw [ex25]; rfl) (by decide) rfl (fun ls hl => ?_)
            refine lv_goto (tgt := 91) hx hb dX11_record_127 (by decide) ?_
            exact ih91 _ _ _ _ _ (lv_sub hl [1, 2, 3, 4, 5, 6, 7, 0] rfl) hW hS hf
      exact lp91 n91 _ _ _ _ _ (lv_sub hl [1, 2, 3, 4, 5, 6, 7, 0] rfl) hW hS hf
    have j67 : ∀ (M26 : Mm) (H : Heap) (locs : List Loc) (ls : Array Slot), lv_has ls 10 [(0, .ref v0), (1, .int v1), (2, .long v2), (4, .int v4), (5, .long v5), (7, .int v7), (8, .int v8)] → Wd D cy A Y M26 H → va_S A s.heap H locs → f_X11_record_67 Y v0 v1 v2 v4 v5 v7 v8 Kn Xn M26 → W p l e rm_X11_record s m args below meth c H locs 1 6 (vx_MQ below (va_Qi Kn (BG D cy A Y) A) (XX D cy A Y Xn) args s 3 18 A) (F0 m 67 ls []) := by
      intro M26 H locs ls hl hW hS hf
      unfold f_X11_record_67 at hf
      refine lv_iconst (v := 0) hx hb dX11_record_67 (by decide +kernel) ?_
      exact j68 _ _ _ _ _ (lv_sub hl [0, 1, 2, 3, 4, 5, 6] rfl) hW hS hf
    refine lv_if_eq (tgt := 67) hx hb dX11_record_47 (by decide) (fun c27 => ?_) (fun c27 => ?_)
    · replace hf := hf.1 c27
      exact j67 _ _ _ _ (lv_sub hl [0, 1, 2, 3, 4, 5, 6] rfl) hW hS hf
    · replace hf := hf.2 c27
      refine lv_iload hx hb dX11_record_50 (lv_at hl 6 rfl) ?_
      refine lv_i2l hx hb dX11_record_52 rfl ?_
      refine lv_lconst (v := 0) hx hb dX11_record_53 (by decide) ?_
      refine lv_ldc2 (v := 1000000) hx hb hown (hts _ kw_498) dX11_record_54 ?_
      refine gm_ci (va_runS (As := [.long v8.toInt64, .long 0, .long 1000000]) (rest := []) ⟨hx, hb, hml, hown, hts⟩ (m_X11_isWithin l D cy tq _ Y _ _ _ _ _) (va_cwS 3 hts (good_S kw_460 kw_461 kw_1 kw_462) rfl rfl rfl (by decide +kernel) ⟨Nat.le_of_ble_eq_true rfl, Nat.le_of_ble_eq_true rfl⟩) (gm_preS hK hW hC hS hA hf) rfl rfl hl.1 rfl (lv_room (Nat.le_of_ble_eq_true rfl)) dX11_record_57 ⟨Nat.le_of_ble_eq_true rfl, Nat.le_of_ble_eq_true rfl⟩) hW hS hA (fun r29 M28 H locs hW hS hf => ?_)
      refine lv_if_eq (tgt := 67) hx hb dX11_record_60 (by decide) (fun c30 => ?_) (fun c30 => ?_)
      · replace hf := hf.1 c30
        exact j67 _ _ _ _ (lv_sub hl [0, 1, 2, 3, 4, 5, 6] rfl) hW hS hf
      · replace hf := hf.2 c30
        refine lv_iconst (v := 1) hx hb dX11_record_63 (by decide +kernel) ?_
        refine lv_goto (tgt := 68) hx hb dX11_record_64 (by decide) ?_
        exact j68 _ _ _ _ _ (lv_sub hl [0, 1, 2, 3, 4, 5, 6] rfl) hW hS hf
  have j31 : ∀ (M31 : Mm) (H : Heap) (locs : List Loc) (ls : Array Slot), lv_has ls 10 [(0, .ref v0), (1, .int v1), (2, .long v2), (4, .int v4), (5, .long v5), (7, .int v7), (8, .int v8)] → Wd D cy A Y M31 H → va_S A s.heap H locs → f_X11_record_31 Y v0 v1 v2 v4 v5 v7 v8 Kn Xn M31 → W p l e rm_X11_record s m args below meth c H locs 0 0 (vx_MQ below (va_Qi Kn (BG D cy A Y) A) (XX D cy A Y Xn) args s 3 18 A) (F0 m 31 ls []) := by
    intro M31 H locs ls hl hW hS hf
    unfold f_X11_record_31 at hf
    refine lv_iconst (v := 0) hx hb dX11_record_31 (by decide +kernel) ?_
    exact j32 _ _ _ _ _ (lv_sub hl [0, 1, 2, 3, 4, 5, 6] rfl) hW hS hf
  refine lv_if_eq (tgt := 31) hx hb dX11_record_9 (by decide) (fun c32 => ?_) (fun c32 => ?_)
  · replace hf := hf.1 c32
    exact j31 _ _ _ _ (lv_sub hl [0, 1, 2, 3, 4, 5, 6] rfl) hW hS hf
  · replace hf := hf.2 c32
    refine lv_iload hx hb dX11_record_12 (lv_at hl 3 rfl) ?_
    refine lv_i2l hx hb dX11_record_14 rfl ?_
    refine lv_ldc2 (v := -1) hx hb hown (hts _ kw_495) dX11_record_15 ?_
    refine lv_ldc2 (v := 8) hx hb hown (hts _ kw_496) dX11_record_18 ?_
    refine gm_ci (va_runS (As := [.long v4.toInt64, .long (-1), .long 8]) (rest := []) ⟨hx, hb, hml, hown, hts⟩ (m_X11_isWithin l D cy tq _ Y _ _ _ _ _) (va_cwS 3 hts (good_S kw_460 kw_461 kw_1 kw_462) rfl rfl rfl (by decide +kernel) ⟨Nat.le_of_ble_eq_true rfl, Nat.le_of_ble_eq_true rfl⟩) (gm_preS hK hW hC hS hA hf) rfl rfl hl.1 rfl (lv_room (Nat.le_of_ble_eq_true rfl)) dX11_record_21 ⟨Nat.le_of_ble_eq_true rfl, Nat.le_of_ble_eq_true rfl⟩) hW hS hA (fun r34 M33 H locs hW hS hf => ?_)
    refine lv_if_eq (tgt := 31) hx hb dX11_record_24 (by decide) (fun c35 => ?_) (fun c35 => ?_)
    · replace hf := hf.1 c35
      exact j31 _ _ _ _ (lv_sub hl [0, 1, 2, 3, 4, 5, 6] rfl) hW hS hf
    · replace hf := hf.2 c35
      refine lv_iconst (v := 1) hx hb dX11_record_27 (by decide +kernel) ?_
      refine lv_goto (tgt := 32) hx hb dX11_record_28 (by decide) ?_
      exact j32 _ _ _ _ _ (lv_sub hl [0, 1, 2, 3, 4, 5, 6] rfl) hW hS hf

abbrev rm_X11_seal : Room := { frames := 7, cells := 2, slots := 12, locals := 152 }
def f_X11_seal_103 (Y : Ly) (v0 : Nat) (v1 : Int64) (v3 : Int32) (v4 : Int32) (v5 : Int64) (Kn : Int32 → Mm → Prop) (x7 : Int32) (x10 : Int32) (M20 : Mm) (y23 : Int64) : Prop :=
  ∃ b24 : Nat, mR M20 v0 1 = some b24 ∧ (∃ b25 : Nat, mR M20 v0 3 = some b25 ∧ (yK Y b25 = 4 ∧ (f_X0_begin Y b24 x10 (mI M20 b25 2) v5 y23 M20 (fun M27 => (∃ b28 : Nat, mR M27 v0 1 = some b28 ∧ (f_X0_sign Y b28 x10 v1 v3 v4 M27 (fun M29 => (∃ b30 : Nat, mR M29 v0 1 = some b30 ∧ (f_X0_finish Y b30 x10 x7 M29 (fun M31 => (∀ M32 : Mm, M32 = sI M31 v0 (m1 (mI M31 v0) 2 ((mI M31 v0 2) + x7)) → (∃ b33 : Nat, mR M32 v0 3 = some b33 ∧ (yK Y b33 = 4 ∧ (f_X4_clear Y b33 M32 (fun M34 => (Kn (mI M34 v0 2) M34))))))))))))))))
def f_X11_seal_42 (Y : Ly) (v0 : Nat) (v1 : Int64) (v3 : Int32) (v4 : Int32) (v5 : Int64) (Kn : Int32 → Mm → Prop) (Xn : String → Mm → Prop) (M3 : Mm) (x7 : Int32) (y8 : Int32) : Prop :=
  f_X11_needState Y y8 M3 (fun M9 => (∀ x10 : Int32, x10 = mI M9 v0 2 → (∃ b11 : Nat, mR M9 v0 3 = some b11 ∧ (yK Y b11 = 4 ∧ (∃ b13 : Nat, mR M9 b11 0 = some b13 ∧ (∃ b14 : Nat, mR M9 v0 1 = some b14 ∧ (∃ b15 : Nat, mR M9 v0 3 = some b15 ∧ (yK Y b15 = 4 ∧ (yK Y b13 = 100 ∧ (yK Y b14 = 100 ∧ (((¬ (0 : Int32) < 0) ∧ (¬ (x10 + 61) < 0) ∧ (¬ (mI M9 b15 1) < 0) ∧ (0 : Int32).toNatClampNeg + (mI M9 b15 1).toNatClampNeg ≤ yN Y b13 ∧ (x10 + 61).toNatClampNeg + (mI M9 b15 1).toNatClampNeg ≤ yN Y b14) ∧ (∀ M20 : Mm, M20 = sI M9 b14 (va_cpy (mI M9 b13) (mI M9 b14) (0 : Int32).toNatClampNeg (x10 + 61).toNatClampNeg (mI M9 b15 1).toNatClampNeg) → (∃ b21 : Nat, mR M20 v0 3 = some b21 ∧ (yK Y b21 = 4 ∧ ((¬ (mI M20 b21 2) = 0 → (∃ b37 : Nat, mR M20 v0 3 = some b37 ∧ (yK Y b37 = 4 ∧ (f_X11_seal_103 Y v0 v1 v3 v4 v5 Kn x7 x10 M20 (v5 + ((mI M20 b37 3).toInt64)))))) ∧ ((mI M20 b21 2) = 0 → (f_X11_seal_103 Y v0 v1 v3 v4 v5 Kn x7 x10 M20 0))))))))))))))))) Xn
def f_X11_seal (Y : Ly) (v0 : Nat) (v1 : Int64) (v3 : Int32) (v4 : Int32) (v5 : Int64) (M : Mm) (Kn : Int32 → Mm → Prop) (Xn : String → Mm → Prop) : Prop :=
  f_X11_isWithin Y v5 0 562949953421312 M (fun r2 M1 => (f_X11_needArguments Y r2 M1 (fun M3 => (yK Y v0 = 11 ∧ (∃ b5 : Nat, mR M3 v0 3 = some b5 ∧ (yK Y b5 = 4 ∧ (∀ x7 : Int32, x7 = 61 + (mI M3 b5 1) → ((16384 < ((mI M3 v0 2) + x7) → (f_X11_seal_42 Y v0 v1 v3 v4 v5 Kn Xn M3 x7 0)) ∧ (¬ (16384 < ((mI M3 v0 2) + x7)) → (f_X11_seal_42 Y v0 v1 v3 v4 v5 Kn Xn M3 x7 1)))))))) Xn))
set_option maxHeartbeats 4000000 in
set_option maxRecDepth 100000 in
theorem m_X11_seal (l : Launch) (hlt : l.stackTraces = false) (D : va_G) (cy : Cy) (tq sz : Nat) (Y : Ly) (v0 : Nat) (v1 : Int64) (v3 : Int32) (v4 : Int32) (v5 : Int64) (M : Mm) (Kn : Int32 → Mm → Prop) (Xn : String → Mm → Prop) : vx_Met l yX11_seal (Cond.code yX11_seal cX11_seal 11 (some .int) :: TT) rm_X11_seal (PcG D cy tq [.ref v0, .long v1, .int v3, .int v4, .long v5] sz Y M (f_X11_seal Y v0 v1 v3 v4 v5 M Kn Xn)) (va_Qi Kn (BG D cy (Am Y sz) Y) (Am Y sz)) (XX D cy (Am Y sz) Y Xn) 2 12 (Am Y sz) := by
  refine vx_ofW (cc := cX11_seal) (maxL := 11) (ret := (some .int)) (by decide) rfl ?_
  intro p e s m args below meth c s₁ B hml hno hv
  obtain ⟨hargs, hsz, hW, hK, hC, hf⟩ := hv
  subst hsz
  have hx := B.exec
  have hb := B.bytes
  have hr := B.returns
  have hts : ∀ w ∈ TT, w.before args s = true := fun w h => atoms_spec (ws := Cond.code yX11_seal cX11_seal 11 (some .int) :: TT) B.pre w (List.mem_cons_of_mem _ h)
  have hown : s.vm.findClass RX11 = some m.cls := findClass_of_methodNamed B.named
  have hlocks := B.notSynchronized
  replace hW := Wd_self (sz := s.heap.size) hW
  generalize hAe : Am Y s.heap.size = A at hW hC ⊢
  have hA : ∀ q : Nat, s.heap.size ≤ q → A q := fun q h => by rw [← hAe]; exact Or.inr h
  clear hAe
  have hS : va_S A s.heap s.heap [] := va_S.rf
  obtain ⟨ls, hE, hl⟩ := gm_entry m [.ref v0, .long v1, .int v3, .int v4, .long v5] (n := 11) hargs (Nat.le_of_ble_eq_true rfl)
  rw [hE]
  have hl : lv_has ls 11 [(0, .ref v0), (1, .long v1), (3, .int v3), (4, .int v4), (5, .long v5)] := hl
  show W p l e rm_X11_seal s m args below meth c s.heap [] 0 0 (vx_MQ below (va_Qi Kn (BG D cy A Y) A) (XX D cy A Y Xn) args s 2 12 A) (F0 m 0 ls [])
  unfold f_X11_seal at hf
  refine lv_lload hx hb dX11_seal_0 (lv_at hl 4 rfl) ?_
  refine lv_lconst (v := 0) hx hb dX11_seal_2 (by decide) ?_
  refine lv_ldc2 (v := 562949953421312) hx hb hown (hts _ kw_531) dX11_seal_3 ?_
  refine gm_ci (va_runS (As := [.long v5, .long 0, .long 562949953421312]) (rest := []) ⟨hx, hb, hml, hown, hts⟩ (m_X11_isWithin l D cy tq _ Y _ _ _ _ _) (va_cwS 3 hts (good_S kw_460 kw_461 kw_1 kw_462) rfl rfl rfl (by decide +kernel) ⟨Nat.le_of_ble_eq_true rfl, Nat.le_of_ble_eq_true rfl⟩) (gm_preS hK hW hC hS hA hf) rfl rfl hl.1 rfl (lv_room (Nat.le_of_ble_eq_true rfl)) dX11_seal_6 ⟨Nat.le_of_ble_eq_true rfl, Nat.le_of_ble_eq_true rfl⟩) hW hS hA (fun r2 M1 H locs hW hS hf => ?_)
  refine gx_cv (vx_runS (As := [.int r2]) (rest := []) ⟨hx, hb, hml, hown, hts⟩ (m_X11_needArguments l hlt D cy tq _ Y _ _ _ _) (va_cwS 1 hts (good_S kw_463 kw_464 kw_1 kw_465) rfl rfl rfl (by decide +kernel) ⟨Nat.le_of_ble_eq_true rfl, Nat.le_of_ble_eq_true rfl⟩) (gm_preS hK hW hC hS hA hf) rfl rfl hl.1 rfl (lv_room (Nat.le_of_ble_eq_true rfl)) dX11_seal_9 ⟨Nat.le_of_ble_eq_true rfl, Nat.le_of_ble_eq_true rfl⟩) hW hS hA (fun E M9 H locs ce q9 hW hS hf h1 h2 h3 => gx_out hno hlocks hW hS hf h1 h2 h3 (Nat.le_of_ble_eq_true rfl) (Nat.le_of_ble_eq_true rfl)) (fun M3 H locs hW hS hf => ?_)
  refine lv_bipush (v := 61) hx hb dX11_seal_12 (by decide +kernel) ?_
  refine lv_aload_n hx hb dX11_seal_14 rfl (lv_at hl 0 rfl) ?_
  obtain ⟨k4, hf⟩ := hf
  obtain ⟨b5, hb5, hf⟩ := hf
  refine gm_getR (C := RX11) (T := TX11) (N := 13) (j := 3) hx hb hts inT_11 hown hK hW k4 (by decide) rfl (by decide) rfl (hts _ kw_297) rfl dX11_seal_15 hb5 ?_
  obtain ⟨k6, hf⟩ := hf
  refine gm_getI (C := RX4) (T := TX4) (N := 4) (j := 1) hx hb hts inT_4 hown hK hW k6 (by decide) rfl (by decide) rfl (hts _ kw_46) rfl dX11_seal_18 ?_
  refine lv_iadd hx hb dX11_seal_21 ?_
  refine lv_topi (fun x7 ex7 => ?_)
  replace hf := hf x7 ex7
  refine lv_istore (lv' := [(7, .int x7), (0, .ref v0), (1, .long v1), (3, .int v3), (4, .int v4), (5, .long v5)]) hx hb dX11_seal_22 hl (by decide) rfl (fun ls hl => ?_)
  refine lv_aload_n hx hb dX11_seal_24 rfl (lv_at hl 1 rfl) ?_
  refine gm_getI (C := RX11) (T := TX11) (N := 13) (j := 2) hx hb hts inT_11 hown hK hW k4 (by decide) rfl (by decide) rfl (hts _ kw_296) rfl dX11_seal_25 ?_
  refine lv_iload hx hb dX11_seal_28 (lv_at hl 0 rfl) ?_
  refine lv_iadd hx hb dX11_seal_30 ?_
  refine lv_sipush (v := 16384) hx hb dX11_seal_31 (by decide +kernel) ?_
  have j42 : ∀ (y8 : Int32) (H : Heap) (locs : List Loc) (ls : Array Slot), lv_has ls 11 [(0, .ref v0), (1, .long v1), (3, .int v3), (4, .int v4), (5, .long v5), (7, .int x7)] → Wd D cy A Y M3 H → va_S A s.heap H locs → f_X11_seal_42 Y v0 v1 v3 v4 v5 Kn Xn M3 x7 y8 → W p l e rm_X11_seal s m args below meth c H locs 1 6 (vx_MQ below (va_Qi Kn (BG D cy A Y) A) (XX D cy A Y Xn) args s 2 12 A) (F0 m 42 ls [.int y8]) := by
    intro y8 H locs ls hl hW hS hf
    unfold f_X11_seal_42 at hf
    refine gx_cv (vx_runS (As := [.int y8]) (rest := []) ⟨hx, hb, hml, hown, hts⟩ (m_X11_needState l hlt D cy tq _ Y _ _ _ _) (va_cwS 1 hts (good_S kw_402 kw_403 kw_1 kw_404) rfl rfl rfl (by decide +kernel) ⟨Nat.le_of_ble_eq_true rfl, Nat.le_of_ble_eq_true rfl⟩) (gm_preS hK hW hC hS hA hf) rfl rfl hl.1 rfl (lv_room (Nat.le_of_ble_eq_true rfl)) dX11_seal_42 ⟨Nat.le_of_ble_eq_true rfl, Nat.le_of_ble_eq_true rfl⟩) hW hS hA (fun E M9 H locs ce q9 hW hS hf h1 h2 h3 => gx_out hno hlocks hW hS hf h1 h2 h3 (Nat.le_of_ble_eq_true rfl) (Nat.le_of_ble_eq_true rfl)) (fun M9 H locs hW hS hf => ?_)
    refine lv_aload_n hx hb dX11_seal_45 rfl (lv_at hl 0 rfl) ?_
    refine gm_getI (C := RX11) (T := TX11) (N := 13) (j := 2) hx hb hts inT_11 hown hK hW k4 (by decide) rfl (by decide) rfl (hts _ kw_296) rfl dX11_seal_46 ?_
    refine lv_topi (fun x10 ex10 => ?_)
    replace hf := hf x10 ex10
    refine lv_istore (lv' := [(8, .int x10), (0, .ref v0), (1, .long v1), (3, .int v3), (4, .int v4), (5, .long v5), (7, .int x7)]) hx hb dX11_seal_49 hl (by decide) rfl (fun ls hl => ?_)
    refine lv_aload_n hx hb dX11_seal_51 rfl (lv_at hl 1 rfl) ?_
    obtain ⟨b11, hb11, hf⟩ := hf
    refine gm_getR (C := RX11) (T := TX11) (N := 13) (j := 3) hx hb hts inT_11 hown hK hW k4 (by decide) rfl (by decide) rfl (hts _ kw_297) rfl dX11_seal_52 hb11 ?_
    obtain ⟨k12, hf⟩ := hf
    obtain ⟨b13, hb13, hf⟩ := hf
    refine gm_getR (C := RX4) (T := TX4) (N := 4) (j := 0) hx hb hts inT_4 hown hK hW k12 (by decide) rfl (by decide) rfl (hts _ kw_44) rfl dX11_seal_55 hb13 ?_
    refine lv_iconst (v := 0) hx hb dX11_seal_58 (by decide +kernel) ?_
    refine lv_aload_n hx hb dX11_seal_59 rfl (lv_at hl 1 rfl) ?_
    obtain ⟨b14, hb14, hf⟩ := hf
    refine gm_getR (C := RX11) (T := TX11) (N := 13) (j := 1) hx hb hts inT_11 hown hK hW k4 (by decide) rfl (by decide) rfl (hts _ kw_295) rfl dX11_seal_60 hb14 ?_
    refine lv_iload hx hb dX11_seal_63 (lv_at hl 0 rfl) ?_
    refine lv_bipush (v := 61) hx hb dX11_seal_65 (by decide +kernel) ?_
    refine lv_iadd hx hb dX11_seal_67 ?_
    refine lv_aload_n hx hb dX11_seal_68 rfl (lv_at hl 1 rfl) ?_
    obtain ⟨b15, hb15, hf⟩ := hf
    refine gm_getR (C := RX11) (T := TX11) (N := 13) (j := 3) hx hb hts inT_11 hown hK hW k4 (by decide) rfl (by decide) rfl (hts _ kw_297) rfl dX11_seal_69 hb15 ?_
    obtain ⟨k16, hf⟩ := hf
    refine gm_getI (C := RX4) (T := TX4) (N := 4) (j := 1) hx hb hts inT_4 hown hK hW k16 (by decide) rfl (by decide) rfl (hts _ kw_46) rfl dX11_seal_72 ?_
    obtain ⟨k17, hf⟩ := hf
    obtain ⟨k18, hf⟩ := hf
    obtain ⟨h19, hf⟩ := hf
    refine gm_copyb hx hb (by rw [hml]; exact hl.1.symm) hown (hts _ kw_532) (hts _ kw_534) (hts _ kw_533) (hts _ kw_19) hK hW hS k17 k18 h19 (Nat.le_of_ble_eq_true rfl) (Nat.le_of_ble_eq_true rfl) dX11_seal_75 (fun H locs M20 eM20 hW hS => ?_)
    replace hf := hf M20 eM20
    refine lv_aload_n hx hb dX11_seal_78 rfl (lv_at hl 1 rfl) ?_
    obtain ⟨b21, hb21, hf⟩ := hf
    refine gm_getR (C := RX11) (T := TX11) (N := 13) (j := 3) hx hb hts inT_11 hown hK hW k4 (by decide) rfl (by decide) rfl (hts _ kw_297) rfl dX11_seal_79 hb21 ?_
    obtain ⟨k22, hf⟩ := hf
    refine gm_getI (C := RX4) (T := TX4) (N := 4) (j := 2) hx hb hts inT_4 hown hK hW k22 (by decide) rfl (by decide) rfl (hts _ kw_48) rfl dX11_seal_82 ?_
    have j103 : ∀ (y23 : Int64) (H : Heap) (locs : List Loc) (ls : Array Slot), lv_has ls 11 [(0, .ref v0), (1, .long v1), (3, .int v3), (4, .int v4), (5, .long v5), (7, .int x7), (8, .int x10)] → Wd D cy A Y M20 H → va_S A s.heap H locs → f_X11_seal_103 Y v0 v1 v3 v4 v5 Kn x7 x10 M20 y23 → W p l e rm_X11_seal s m args below meth c H locs 2 12 (vx_MQ below (va_Qi Kn (BG D cy A Y) A) (XX D cy A Y Xn) args s 2 12 A) (F0 m 103 ls [.long y23]) := by
      intro y23 H locs ls hl hW hS hf
      unfold f_X11_seal_103 at hf
      refine lv_lstore (lv' := [(9, .long y23), (0, .ref v0), (1, .long v1), (3, .int v3), (4, .int v4), (5, .long v5), (7, .int x7), (8, .int x10)]) hx hb dX11_seal_103 hl (by decide) rfl (fun ls hl => ?_)
      refine lv_aload_n hx hb dX11_seal_105 rfl (lv_at hl 1 rfl) ?_
      obtain ⟨b24, hb24, hf⟩ := hf
      refine gm_getR (C := RX11) (T := TX11) (N := 13) (j := 1) hx hb hts inT_11 hown hK hW k4 (by decide) rfl (by decide) rfl (hts _ kw_295) rfl dX11_seal_106 hb24 ?_
      refine lv_iload hx hb dX11_seal_109 (lv_at hl 7 rfl) ?_
      refine lv_aload_n hx hb dX11_seal_111 rfl (lv_at hl 1 rfl) ?_
      obtain ⟨b25, hb25, hf⟩ := hf
      refine gm_getR (C := RX11) (T := TX11) (N := 13) (j := 3) hx hb hts inT_11 hown hK hW k4 (by decide) rfl (by decide) rfl (hts _ kw_297) rfl dX11_seal_112 hb25 ?_
      obtain ⟨k26, hf⟩ := hf
      refine gm_getI (C := RX4) (T := TX4) (N := 4) (j := 2) hx hb hts inT_4 hown hK hW k26 (by decide) rfl (by decide) rfl (hts _ kw_48) rfl dX11_seal_115 ?_
      refine lv_lload hx hb dX11_seal_118 (lv_at hl 5 rfl) ?_
      refine lv_lload hx hb dX11_seal_120 (lv_at hl 0 rfl) ?_
      refine gm_cv (va_runS (As := [.ref b24, .int x10, .int (mI M20 b25 2), .long v5, .long y23]) (rest := []) ⟨hx, hb, hml, hown, hts⟩ (m_X0_begin l D cy tq _ Y _ _ _ _ _ _ _) (va_cwS 5 hts (good_S kw_535 kw_536 kw_20 kw_537) rfl rfl rfl (by decide +kernel) ⟨Nat.le_of_ble_eq_true rfl, Nat.le_of_ble_eq_true rfl⟩) (gm_preS hK hW hC hS hA hf) rfl rfl hl.1 rfl (lv_room (Nat.le_of_ble_eq_true rfl)) dX11_seal_122 ⟨Nat.le_of_ble_eq_true rfl, Nat.le_of_ble_eq_true rfl⟩) hW hS hA (fun M27 H locs hW hS hf => ?_)
      refine lv_aload_n hx hb dX11_seal_125 rfl (lv_at hl 1 rfl) ?_
      obtain ⟨b28, hb28, hf⟩ := hf
      refine gm_getR (C := RX11) (T := TX11) (N := 13) (j := 1) hx hb hts inT_11 hown hK hW k4 (by decide) rfl (by decide) rfl (hts _ kw_295) rfl dX11_seal_126 hb28 ?_
      refine lv_iload hx hb dX11_seal_129 (lv_at hl 7 rfl) ?_
      refine lv_lload_n hx hb dX11_seal_131 rfl (lv_at hl 2 rfl) ?_
      refine lv_iload_n hx hb dX11_seal_132 rfl (lv_at hl 3 rfl) ?_
      refine lv_iload hx hb dX11_seal_133 (lv_at hl 4 rfl) ?_
      refine gm_cv (va_runS (As := [.ref b28, .int x10, .long v1, .int v3, .int v4]) (rest := []) ⟨hx, hb, hml, hown, hts⟩ (m_X0_sign l D cy tq _ Y _ _ _ _ _ _ _) (va_cwS 5 hts (good_S kw_749 kw_750 kw_20 kw_751) rfl rfl rfl (by decide +kernel) ⟨Nat.le_of_ble_eq_true rfl, Nat.le_of_ble_eq_true rfl⟩) (gm_preS hK hW hC hS hA hf) rfl rfl hl.1 rfl (lv_room (Nat.le_of_ble_eq_true rfl)) dX11_seal_135 ⟨Nat.le_of_ble_eq_true rfl, Nat.le_of_ble_eq_true rfl⟩) hW hS hA (fun M29 H locs hW hS hf => ?_)
      refine lv_aload_n hx hb dX11_seal_138 rfl (lv_at hl 1 rfl) ?_
      obtain ⟨b30, hb30, hf⟩ := hf
      refine gm_getR (C := RX11) (T := TX11) (N := 13) (j := 1) hx hb hts inT_11 hown hK hW k4 (by decide) rfl (by decide) rfl (hts _ kw_295) rfl dX11_seal_139 hb30 ?_
      refine lv_iload hx hb dX11_seal_142 (lv_at hl 7 rfl) ?_
      refine lv_iload hx hb dX11_seal_144 (lv_at hl 6 rfl) ?_
      refine gm_cv (va_runS (As := [.ref b30, .int x10, .int x7]) (rest := []) ⟨hx, hb, hml, hown, hts⟩ (m_X0_finish l D cy tq _ Y _ _ _ _ _) (va_cwS 3 hts (good_S kw_752 kw_753 kw_20 kw_754) rfl rfl rfl (by decide +kernel) ⟨Nat.le_of_ble_eq_true rfl, Nat.le_of_ble_eq_true rfl⟩) (gm_preS hK hW hC hS hA hf) rfl rfl hl.1 rfl (lv_room (Nat.le_of_ble_eq_true rfl)) dX11_seal_146 ⟨Nat.le_of_ble_eq_true rfl, Nat.le_of_ble_eq_true rfl⟩) hW hS hA (fun M31 H locs hW hS hf => ?_)
      refine lv_aload_n hx hb dX11_seal_149 rfl (lv_at hl 1 rfl) ?_
      refine lv_dup hx hb dX11_seal_150 rfl ?_
      refine gm_getI (C := RX11) (T := TX11) (N := 13) (j := 2) hx hb hts inT_11 hown hK hW k4 (by decide) rfl (by decide) rfl (hts _ kw_296) rfl dX11_seal_151 ?_
      refine lv_iload hx hb dX11_seal_154 (lv_at hl 6 rfl) ?_
      refine lv_iadd hx hb dX11_seal_156 ?_
      refine gm_putI (C := RX11) (T := TX11) (N := 13) (j := 2) hx hb hts inT_11 tyX11 tyX11_ok nmX11 hown hK hW hS k4 (by decide) rfl (by decide) rfl (hts _ kw_296) rfl rfl rfl rfl dX11_seal_157 (fun H locs M32 eM32 hW hS => ?_)
      replace hf := hf M32 eM32
      refine lv_aload_n hx hb dX11_seal_160 rfl (lv_at hl 1 rfl) ?_
      obtain ⟨b33, hb33, hf⟩ := hf
      refine gm_getR (C := RX11) (T := TX11) (N := 13) (j := 3) hx hb hts inT_11 hown hK hW k4 (by decide) rfl (by decide) rfl (hts _ kw_297) rfl dX11_seal_161 hb33 ?_
      obtain ⟨k35, hf⟩ := hf
      refine gm_cv (va_runV (As := []) (rest := []) ⟨hx, hb, hml, hown, hts⟩ (m_X4_clear l D cy tq _ Y _ _ _) (cwV 0 hts (good_V kw_759 kw_760 kw_761 kw_2 kw_762) rfl rfl rfl (by decide +kernel) ⟨Nat.le_of_ble_eq_true rfl, Nat.le_of_ble_eq_true rfl⟩) (gm_preV hK hW hC hS hA k35 (by decide) (q := (RX4, TX4, 4)) rfl rfl hf) rfl rfl hl.1 rfl (lv_room (Nat.le_of_ble_eq_true rfl)) dX11_seal_164 ⟨Nat.le_of_ble_eq_true rfl, Nat.le_of_ble_eq_true rfl⟩) hW hS hA (fun M34 H locs hW hS hf => ?_)
      refine lv_aload_n hx hb dX11_seal_167 rfl (lv_at hl 1 rfl) ?_
      refine gm_getI (C := RX11) (T := TX11) (N := 13) (j := 2) hx hb hts inT_11 hown hK hW k4 (by decide) rfl (by decide) rfl (hts _ kw_296) rfl dX11_seal_168 ?_
      exact vx_ret (gm_iret hx hb hr hlocks hW hS hf dX11_seal_171)
    refine lv_if_ne (tgt := 92) hx hb dX11_seal_85 (by decide) (fun c36 => ?_) (fun c36 => ?_)
    · replace hf := hf.1 c36
      refine lv_lload hx hb dX11_seal_92 (lv_at hl 5 rfl) ?_
      refine lv_aload_n hx hb dX11_seal_94 rfl (lv_at hl 1 rfl) ?_
      obtain ⟨b37, hb37, hf⟩ := hf
      refine gm_getR (C := RX11) (T := TX11) (N := 13) (j := 3) hx hb hts inT_11 hown hK hW k4 (by decide) rfl (by decide) rfl (hts _ kw_297) rfl dX11_seal_95 hb37 ?_
      obtain ⟨k38, hf⟩ := hf
      refine gm_getI (C := RX4) (T := TX4) (N := 4) (j := 3) hx hb hts inT_4 hown hK hW k38 (by decide) rfl (by decide) rfl (hts _ kw_50) rfl dX11_seal_98 ?_
      refine lv_i2l hx hb dX11_seal_101 rfl ?_
      refine lv_ladd hx hb dX11_seal_102 ?_
      exact j103 _ _ _ _ (lv_sub hl [1, 2, 3, 4, 5, 6, 0] rfl) hW hS hf
    · replace hf := hf.2 c36
      refine lv_lconst (v := 0) hx hb dX11_seal_88 (by decide) ?_
      refine lv_goto (tgt := 103) hx hb dX11_seal_89 (by decide) ?_
      exact j103 _ _ _ _ (lv_sub hl [1, 2, 3, 4, 5, 6, 0] rfl) hW hS hf
  refine lv_icmp_gt (tgt := 41) hx hb dX11_seal_34 (by decide) (fun c39 => ?_) (fun c39 => ?_)
  · replace hf := hf.1 c39
    refine lv_iconst (v := 0) hx hb dX11_seal_41 (by decide +kernel) ?_
    exact j42 _ _ _ _ (lv_sub hl [1, 2, 3, 4, 5, 0] rfl) hW hS hf
  · replace hf := hf.2 c39
    refine lv_iconst (v := 1) hx hb dX11_seal_37 (by decide +kernel) ?_
    refine lv_goto (tgt := 42) hx hb dX11_seal_38 (by decide) ?_
    exact j42 _ _ _ _ (lv_sub hl [1, 2, 3, 4, 5, 0] rfl) hW hS hf

abbrev rm_X11_fault : Room := { frames := 7, cells := 1, slots := 6, locals := 210 }
def f_X11_fault_46 (Y : Ly) (Kn : Int32 → Mm → Prop) (M7 : Mm) (y9 : Int32) : Prop :=
  Kn y9 M7
def f_X11_fault (Y : Ly) (v0 : Nat) (v1 : Int32) (M : Mm) (Kn : Int32 → Mm → Prop) (Xn : String → Mm → Prop) : Prop :=
  f_X11_isWithin Y v1.toInt64 0 1 M (fun r2 M1 => (f_X11_needArguments Y r2 M1 (fun M3 => (yK Y v0 = 11 ∧ (∃ b5 : Nat, mR M3 v0 4 = some b5 ∧ (∃ b6 : Nat, mR M3 v0 1 = some b6 ∧ (yK Y b5 = 5 ∧ (f_X5_examine Y b5 b6 (mI M3 v0 2) M3 (fun M7 => ((¬ v1 = 0 → (∃ b11 : Nat, mR M7 v0 4 = some b11 ∧ (yK Y b11 = 5 ∧ (f_X11_fault_46 Y Kn M7 (mI M7 b11 1))))) ∧ (v1 = 0 → (∃ b13 : Nat, mR M7 v0 4 = some b13 ∧ (yK Y b13 = 5 ∧ (f_X11_fault_46 Y Kn M7 (mI M7 b13 0))))))))))))) Xn))
set_option maxHeartbeats 4000000 in
set_option maxRecDepth 100000 in
theorem m_X11_fault (l : Launch) (hlt : l.stackTraces = false) (D : va_G) (cy : Cy) (tq sz : Nat) (Y : Ly) (v0 : Nat) (v1 : Int32) (M : Mm) (Kn : Int32 → Mm → Prop) (Xn : String → Mm → Prop) : vx_Met l yX11_fault (Cond.code yX11_fault cX11_fault 2 (some .int) :: TT) rm_X11_fault (PcG D cy tq [.ref v0, .int v1] sz Y M (f_X11_fault Y v0 v1 M Kn Xn)) (va_Qi Kn (BG D cy (Am Y sz) Y) (Am Y sz)) (XX D cy (Am Y sz) Y Xn) 1 6 (Am Y sz) := by
  refine vx_ofW (cc := cX11_fault) (maxL := 2) (ret := (some .int)) (by decide) rfl ?_
  intro p e s m args below meth c s₁ B hml hno hv
  obtain ⟨hargs, hsz, hW, hK, hC, hf⟩ := hv
  subst hsz
  have hx := B.exec
  have hb := B.bytes
  have hr := B.returns
  have hts : ∀ w ∈ TT, w.before args s = true := fun w h => atoms_spec (ws := Cond.code yX11_fault cX11_fault 2 (some .int) :: TT) B.pre w (List.mem_cons_of_mem _ h)
  have hown : s.vm.findClass RX11 = some m.cls := findClass_of_methodNamed B.named
  have hlocks := B.notSynchronized
  replace hW := Wd_self (sz := s.heap.size) hW
  generalize hAe : Am Y s.heap.size = A at hW hC ⊢
  have hA : ∀ q : Nat, s.heap.size ≤ q → A q := fun q h => by rw [← hAe]; exact Or.inr h
  clear hAe
  have hS : va_S A s.heap s.heap [] := va_S.rf
  obtain ⟨ls, hE, hl⟩ := gm_entry m [.ref v0, .int v1] (n := 2) hargs (Nat.le_of_ble_eq_true rfl)
  rw [hE]
  have hl : lv_has ls 2 [(0, .ref v0), (1, .int v1)] := hl
  show W p l e rm_X11_fault s m args below meth c s.heap [] 0 0 (vx_MQ below (va_Qi Kn (BG D cy A Y) A) (XX D cy A Y Xn) args s 1 6 A) (F0 m 0 ls [])
  unfold f_X11_fault at hf
  refine lv_iload_n hx hb dX11_fault_0 rfl (lv_at hl 1 rfl) ?_
  refine lv_i2l hx hb dX11_fault_1 rfl ?_
  refine lv_lconst (v := 0) hx hb dX11_fault_2 (by decide) ?_
  refine lv_lconst (v := 1) hx hb dX11_fault_3 (by decide) ?_
  refine gm_ci (va_runS (As := [.long v1.toInt64, .long 0, .long 1]) (rest := []) ⟨hx, hb, hml, hown, hts⟩ (m_X11_isWithin l D cy tq _ Y _ _ _ _ _) (va_cwS 3 hts (good_S kw_460 kw_461 kw_1 kw_462) rfl rfl rfl (by decide +kernel) ⟨Nat.le_of_ble_eq_true rfl, Nat.le_of_ble_eq_true rfl⟩) (gm_preS hK hW hC hS hA hf) rfl rfl hl.1 rfl (lv_room (Nat.le_of_ble_eq_true rfl)) dX11_fault_4 ⟨Nat.le_of_ble_eq_true rfl, Nat.le_of_ble_eq_true rfl⟩) hW hS hA (fun r2 M1 H locs hW hS hf => ?_)
  refine gx_cv (vx_runS (As := [.int r2]) (rest := []) ⟨hx, hb, hml, hown, hts⟩ (m_X11_needArguments l hlt D cy tq _ Y _ _ _ _) (va_cwS 1 hts (good_S kw_463 kw_464 kw_1 kw_465) rfl rfl rfl (by decide +kernel) ⟨Nat.le_of_ble_eq_true rfl, Nat.le_of_ble_eq_true rfl⟩) (gm_preS hK hW hC hS hA hf) rfl rfl hl.1 rfl (lv_room (Nat.le_of_ble_eq_true rfl)) dX11_fault_7 ⟨Nat.le_of_ble_eq_true rfl, Nat.le_of_ble_eq_true rfl⟩) hW hS hA (fun E M9 H locs ce q9 hW hS hf h1 h2 h3 => gx_out hno hlocks hW hS hf h1 h2 h3 (Nat.le_of_ble_eq_true rfl) (Nat.le_of_ble_eq_true rfl)) (fun M3 H locs hW hS hf => ?_)
  refine lv_aload_n hx hb dX11_fault_10 rfl (lv_at hl 0 rfl) ?_
  obtain ⟨k4, hf⟩ := hf
  obtain ⟨b5, hb5, hf⟩ := hf
  refine gm_getR (C := RX11) (T := TX11) (N := 13) (j := 4) hx hb hts inT_11 hown hK hW k4 (by decide) rfl (by decide) rfl (hts _ kw_298) rfl dX11_fault_11 hb5 ?_
  refine lv_aload_n hx hb dX11_fault_14 rfl (lv_at hl 0 rfl) ?_
  obtain ⟨b6, hb6, hf⟩ := hf
  refine gm_getR (C := RX11) (T := TX11) (N := 13) (j := 1) hx hb hts inT_11 hown hK hW k4 (by decide) rfl (by decide) rfl (hts _ kw_295) rfl dX11_fault_15 hb6 ?_
  refine lv_aload_n hx hb dX11_fault_18 rfl (lv_at hl 0 rfl) ?_
  refine gm_getI (C := RX11) (T := TX11) (N := 13) (j := 2) hx hb hts inT_11 hown hK hW k4 (by decide) rfl (by decide) rfl (hts _ kw_296) rfl dX11_fault_19 ?_
  obtain ⟨k8, hf⟩ := hf
  refine gm_cv (va_runV (As := [.ref b6, .int (mI M3 v0 2)]) (rest := []) ⟨hx, hb, hml, hown, hts⟩ (m_X5_examine l D cy tq _ Y _ _ _ _ _) (cwV 2 hts (good_V kw_770 kw_771 kw_772 kw_3 kw_773) rfl rfl rfl (by decide +kernel) ⟨Nat.le_of_ble_eq_true rfl, Nat.le_of_ble_eq_true rfl⟩) (gm_preV hK hW hC hS hA k8 (by decide) (q := (RX5, TX5, 3)) rfl rfl hf) rfl rfl hl.1 rfl (lv_room (Nat.le_of_ble_eq_true rfl)) dX11_fault_22 ⟨Nat.le_of_ble_eq_true rfl, Nat.le_of_ble_eq_true rfl⟩) hW hS hA (fun M7 H locs hW hS hf => ?_)
  refine lv_iload_n hx hb dX11_fault_25 rfl (lv_at hl 1 rfl) ?_
  have j46 : ∀ (y9 : Int32) (H : Heap) (locs : List Loc) (ls : Array Slot), lv_has ls 2 [] → Wd D cy A Y M7 H → va_S A s.heap H locs → f_X11_fault_46 Y Kn M7 y9 → W p l e rm_X11_fault s m args below meth c H locs 1 6 (vx_MQ below (va_Qi Kn (BG D cy A Y) A) (XX D cy A Y Xn) args s 1 6 A) (F0 m 46 ls [.int y9]) := by
    intro y9 H locs ls hl hW hS hf
    unfold f_X11_fault_46 at hf
    exact vx_ret (gm_iret hx hb hr hlocks hW hS hf dX11_fault_46)
  refine lv_if_ne (tgt := 39) hx hb dX11_fault_26 (by decide) (fun c10 => ?_) (fun c10 => ?_)
  · replace hf := hf.1 c10
    refine lv_aload_n hx hb dX11_fault_39 rfl (lv_at hl 0 rfl) ?_
    obtain ⟨b11, hb11, hf⟩ := hf
    refine gm_getR (C := RX11) (T := TX11) (N := 13) (j := 4) hx hb hts inT_11 hown hK hW k4 (by decide) rfl (by decide) rfl (hts _ kw_298) rfl dX11_fault_40 hb11 ?_
    obtain ⟨k12, hf⟩ := hf
    refine gm_getI (C := RX5) (T := TX5) (N := 3) (j := 1) hx hb hts inT_5 hown hK hW k12 (by decide) rfl (by decide) rfl (hts _ kw_103) rfl dX11_fault_43 ?_
    exact j46 _ _ _ _ (lv_sub hl [] rfl) hW hS hf
  · replace hf := hf.2 c10
    refine lv_aload_n hx hb dX11_fault_29 rfl (lv_at hl 0 rfl) ?_
    obtain ⟨b13, hb13, hf⟩ := hf
    refine gm_getR (C := RX11) (T := TX11) (N := 13) (j := 4) hx hb hts inT_11 hown hK hW k4 (by decide) rfl (by decide) rfl (hts _ kw_298) rfl dX11_fault_30 hb13 ?_
    obtain ⟨k14, hf⟩ := hf
    refine gm_getI (C := RX5) (T := TX5) (N := 3) (j := 0) hx hb hts inT_5 hown hK hW k14 (by decide) rfl (by decide) rfl (hts _ kw_101) rfl dX11_fault_33 ?_
    refine lv_goto (tgt := 46) hx hb dX11_fault_36 (by decide) ?_
    exact j46 _ _ _ _ (lv_sub hl [] rfl) hW hS hf

abbrev rm_X11_needPower : Room := { frames := 7, cells := 1, slots := 6, locals := 110 }
def f_X11_needPower_15 (Y : Ly) (M : Mm) (Kn : Mm → Prop) (Xn : String → Mm → Prop) (y4 : Int32) : Prop :=
  f_X11_needState Y y4 M (fun M5 => (Kn M5)) Xn
def f_X11_needPower (Y : Ly) (v0 : Nat) (M : Mm) (Kn : Mm → Prop) (Xn : String → Mm → Prop) : Prop :=
  yK Y v0 = 11 ∧ (∃ b2 : Nat, mR M v0 6 = some b2 ∧ (yK Y b2 = 3 ∧ ((¬ (mI M b2 3) = 0 → (f_X11_needPower_15 Y M Kn Xn 0)) ∧ ((mI M b2 3) = 0 → (f_X11_needPower_15 Y M Kn Xn 1)))))
set_option maxHeartbeats 4000000 in
set_option maxRecDepth 100000 in
theorem m_X11_needPower (l : Launch) (hlt : l.stackTraces = false) (D : va_G) (cy : Cy) (tq sz : Nat) (Y : Ly) (v0 : Nat) (M : Mm) (Kn : Mm → Prop) (Xn : String → Mm → Prop) : vx_Met l yX11_needPower (Cond.code yX11_needPower cX11_needPower 1 none :: TT) rm_X11_needPower (PcG D cy tq [.ref v0] sz Y M (f_X11_needPower Y v0 M Kn Xn)) (va_Qv Kn (BG D cy (Am Y sz) Y) (Am Y sz)) (XX D cy (Am Y sz) Y Xn) 1 6 (Am Y sz) := by
  refine vx_ofW (cc := cX11_needPower) (maxL := 1) (ret := none) (by decide) rfl ?_
  intro p e s m args below meth c s₁ B hml hno hv
  obtain ⟨hargs, hsz, hW, hK, hC, hf⟩ := hv
  subst hsz
  have hx := B.exec
  have hb := B.bytes
  have hr := B.returns
  have hts : ∀ w ∈ TT, w.before args s = true := fun w h => atoms_spec (ws := Cond.code yX11_needPower cX11_needPower 1 none :: TT) B.pre w (List.mem_cons_of_mem _ h)
  have hown : s.vm.findClass RX11 = some m.cls := findClass_of_methodNamed B.named
  have hlocks := B.notSynchronized
  replace hW := Wd_self (sz := s.heap.size) hW
  generalize hAe : Am Y s.heap.size = A at hW hC ⊢
  have hA : ∀ q : Nat, s.heap.size ≤ q → A q := fun q h => by rw [← hAe]; exact Or.inr h
  clear hAe
  have hS : va_S A s.heap s.heap [] := va_S.rf
  obtain ⟨ls, hE, hl⟩ := gm_entry m [.ref v0] (n := 1) hargs (Nat.le_of_ble_eq_true rfl)
  rw [hE]
  have hl : lv_has ls 1 [(0, .ref v0)] := hl
  show W p l e rm_X11_needPower s m args below meth c s.heap [] 0 0 (vx_MQ below (va_Qv Kn (BG D cy A Y) A) (XX D cy A Y Xn) args s 1 6 A) (F0 m 0 ls [])
  unfold f_X11_needPower at hf
  refine lv_aload_n hx hb dX11_needPower_0 rfl (lv_at hl 0 rfl) ?_
  obtain ⟨k1, hf⟩ := hf
  obtain ⟨b2, hb2, hf⟩ := hf
  refine gm_getR (C := RX11) (T := TX11) (N := 13) (j := 6) hx hb hts inT_11 hown hK hW k1 (by decide) rfl (by decide) rfl (hts _ kw_300) rfl dX11_needPower_1 hb2 ?_
  obtain ⟨k3, hf⟩ := hf
  refine gm_getI (C := RX3) (T := TX3) (N := 4) (j := 3) hx hb hts inT_3 hown hK hW k3 (by decide) rfl (by decide) rfl (hts _ kw_152) rfl dX11_needPower_4 ?_
  have j15 : ∀ (y4 : Int32) (H : Heap) (locs : List Loc) (ls : Array Slot), lv_has ls 1 [] → Wd D cy A Y M H → va_S A s.heap H locs → f_X11_needPower_15 Y M Kn Xn y4 → W p l e rm_X11_needPower s m args below meth c H locs 0 0 (vx_MQ below (va_Qv Kn (BG D cy A Y) A) (XX D cy A Y Xn) args s 1 6 A) (F0 m 15 ls [.int y4]) := by
    intro y4 H locs ls hl hW hS hf
    unfold f_X11_needPower_15 at hf
    refine gx_cv (vx_runS (As := [.int y4]) (rest := []) ⟨hx, hb, hml, hown, hts⟩ (m_X11_needState l hlt D cy tq _ Y _ _ _ _) (va_cwS 1 hts (good_S kw_402 kw_403 kw_1 kw_404) rfl rfl rfl (by decide +kernel) ⟨Nat.le_of_ble_eq_true rfl, Nat.le_of_ble_eq_true rfl⟩) (gm_preS hK hW hC hS hA hf) rfl rfl hl.1 rfl (lv_room (Nat.le_of_ble_eq_true rfl)) dX11_needPower_15 ⟨Nat.le_of_ble_eq_true rfl, Nat.le_of_ble_eq_true rfl⟩) hW hS hA (fun E M9 H locs ce q9 hW hS hf h1 h2 h3 => gx_out hno hlocks hW hS hf h1 h2 h3 (Nat.le_of_ble_eq_true rfl) (Nat.le_of_ble_eq_true rfl)) (fun M5 H locs hW hS hf => ?_)
    exact vx_ret (gm_vret hx hb hr hlocks hW hS hf dX11_needPower_18)
  refine lv_if_ne (tgt := 14) hx hb dX11_needPower_7 (by decide) (fun c6 => ?_) (fun c6 => ?_)
  · replace hf := hf.1 c6
    refine lv_iconst (v := 0) hx hb dX11_needPower_14 (by decide +kernel) ?_
    exact j15 _ _ _ _ (lv_sub hl [] rfl) hW hS hf
  · replace hf := hf.2 c6
    refine lv_iconst (v := 1) hx hb dX11_needPower_10 (by decide +kernel) ?_
    refine lv_goto (tgt := 15) hx hb dX11_needPower_11 (by decide) ?_
    exact j15 _ _ _ _ (lv_sub hl [] rfl) hW hS hf

abbrev rm_X11_producer : Room := { frames := 8, cells := 1, slots := 6, locals := 130 }
def f_X11_producer_64 (Y : Ly) (v0 : Nat) (Kn : Int64 → Mm → Prop) (M3 : Mm) : Prop :=
  ∀ M4 : Mm, M4 = sJ M3 v0 (m1 (mJ M3 v0) 8 ((mJ M3 v0 8) + 1)) → (Kn ((mJ M4 v0 8) - 1) M4)
def f_X11_producer (Y : Ly) (v0 : Nat) (M : Mm) (Kn : Int64 → Mm → Prop) (Xn : String → Mm → Prop) : Prop :=
  yK Y v0 = 11 ∧ (f_X11_needPower Y v0 M (fun M1 => ((¬ (mJ M1 v0 8) = (mJ M1 v0 9) → (f_X11_producer_64 Y v0 Kn M1)) ∧ ((mJ M1 v0 8) = (mJ M1 v0 9) → (∀ M6 : Mm, M6 = sJ M1 v0 (m1 (mJ M1 v0) 9 ((mJ M1 v0 9) + 100)) → (∃ b7 : Nat, mR M6 v0 7 = some b7 ∧ (f_X1_put Y b7 0 8 (mJ M6 v0 9) M6 (fun M8 => (∃ b9 : Nat, mR M8 v0 6 = some b9 ∧ (∃ b10 : Nat, mR M8 v0 7 = some b10 ∧ (yK Y b9 = 3 ∧ (f_X3_write Y b9 0 b10 0 8 M8 (fun r12 M11 => ((¬ r12 = 0 → (f_X11_producer_64 Y v0 Kn M11)) ∧ (r12 = 0 → (Kn (-3) M11))))))))))))))) Xn)
set_option maxHeartbeats 4000000 in
set_option maxRecDepth 100000 in
theorem m_X11_producer (l : Launch) (hlt : l.stackTraces = false) (D : va_G) (cy : Cy) (tq sz : Nat) (Y : Ly) (v0 : Nat) (M : Mm) (Kn : Int64 → Mm → Prop) (Xn : String → Mm → Prop) : vx_Met l yX11_producer (Cond.code yX11_producer cX11_producer 1 (some .long) :: TT) rm_X11_producer (PcG D cy tq [.ref v0] sz Y M (f_X11_producer Y v0 M Kn Xn)) (va_Ql Kn (BG D cy (Am Y sz) Y) (Am Y sz)) (XX D cy (Am Y sz) Y Xn) 1 6 (Am Y sz) := by
  refine vx_ofW (cc := cX11_producer) (maxL := 1) (ret := (some .long)) (by decide) rfl ?_
  intro p e s m args below meth c s₁ B hml hno hv
  obtain ⟨hargs, hsz, hW, hK, hC, hf⟩ := hv
  subst hsz
  have hx := B.exec
  have hb := B.bytes
  have hr := B.returns
  have hts : ∀ w ∈ TT, w.before args s = true := fun w h => atoms_spec (ws := Cond.code yX11_producer cX11_producer 1 (some .long) :: TT) B.pre w (List.mem_cons_of_mem _ h)
  have hown : s.vm.findClass RX11 = some m.cls := findClass_of_methodNamed B.named
  have hlocks := B.notSynchronized
  replace hW := Wd_self (sz := s.heap.size) hW
  generalize hAe : Am Y s.heap.size = A at hW hC ⊢
  have hA : ∀ q : Nat, s.heap.size ≤ q → A q := fun q h => by rw [← hAe]; exact Or.inr h
  clear hAe
  have hS : va_S A s.heap s.heap [] := va_S.rf
  obtain ⟨ls, hE, hl⟩ := gm_entry m [.ref v0] (n := 1) hargs (Nat.le_of_ble_eq_true rfl)
  rw [hE]
  have hl : lv_has ls 1 [(0, .ref v0)] := hl
  show W p l e rm_X11_producer s m args below meth c s.heap [] 0 0 (vx_MQ below (va_Ql Kn (BG D cy A Y) A) (XX D cy A Y Xn) args s 1 6 A) (F0 m 0 ls [])
  unfold f_X11_producer at hf
  refine lv_aload_n hx hb dX11_producer_0 rfl (lv_at hl 0 rfl) ?_
  obtain ⟨k2, hf⟩ := hf
  refine gx_cv (vx_runV (As := []) (rest := []) ⟨hx, hb, hml, hown, hts⟩ (m_X11_needPower l hlt D cy tq _ Y _ _ _ _) (cwV 0 hts (good_V kw_842 kw_843 kw_1794 kw_1 kw_844) rfl rfl rfl (by decide +kernel) ⟨Nat.le_of_ble_eq_true rfl, Nat.le_of_ble_eq_true rfl⟩) (gm_preV hK hW hC hS hA k2 (by decide) (q := (RX11, TX11, 13)) rfl rfl hf) rfl rfl hl.1 rfl (lv_room (Nat.le_of_ble_eq_true rfl)) dX11_producer_1 ⟨Nat.le_of_ble_eq_true rfl, Nat.le_of_ble_eq_true rfl⟩) hW hS hA (fun E M9 H locs ce q9 hW hS hf h1 h2 h3 => gx_out hno hlocks hW hS hf h1 h2 h3 (Nat.le_of_ble_eq_true rfl) (Nat.le_of_ble_eq_true rfl)) (fun M1 H locs hW hS hf => ?_)
  refine lv_aload_n hx hb dX11_producer_4 rfl (lv_at hl 0 rfl) ?_
  refine gm_getJ (C := RX11) (T := TX11) (N := 13) (j := 8) hx hb hts inT_11 hown hK hW k2 (by decide) rfl (by decide) rfl (hts _ kw_302) rfl dX11_producer_5 ?_
  refine lv_aload_n hx hb dX11_producer_8 rfl (lv_at hl 0 rfl) ?_
  refine gm_getJ (C := RX11) (T := TX11) (N := 13) (j := 9) hx hb hts inT_11 hown hK hW k2 (by decide) rfl (by decide) rfl (hts _ kw_303) rfl dX11_producer_9 ?_
  refine W.lcmp hx hb dX11_producer_12 ?_
  have j64 : ∀ (M3 : Mm) (H : Heap) (locs : List Loc) (ls : Array Slot), lv_has ls 1 [(0, .ref v0)] → Wd D cy A Y M3 H → va_S A s.heap H locs → f_X11_producer_64 Y v0 Kn M3 → W p l e rm_X11_producer s m args below meth c H locs 1 6 (vx_MQ below (va_Ql Kn (BG D cy A Y) A) (XX D cy A Y Xn) args s 1 6 A) (F0 m 64 ls []) := by
    intro M3 H locs ls hl hW hS hf
    unfold f_X11_producer_64 at hf
    refine lv_aload_n hx hb dX11_producer_64 rfl (lv_at hl 0 rfl) ?_
    refine lv_dup hx hb dX11_producer_65 rfl ?_
    refine gm_getJ (C := RX11) (T := TX11) (N := 13) (j := 8) hx hb hts inT_11 hown hK hW k2 (by decide) rfl (by decide) rfl (hts _ kw_302) rfl dX11_producer_66 ?_
    refine lv_lconst (v := 1) hx hb dX11_producer_69 (by decide) ?_
    refine lv_ladd hx hb dX11_producer_70 ?_
    refine gm_putJ (C := RX11) (T := TX11) (N := 13) (j := 8) hx hb hts inT_11 tyX11 tyX11_ok nmX11 hown hK hW hS k2 (by decide) rfl (by decide) rfl (hts _ kw_302) rfl rfl rfl rfl dX11_producer_71 (fun H locs M4 eM4 hW hS => ?_)
    replace hf := hf M4 eM4
    refine lv_aload_n hx hb dX11_producer_74 rfl (lv_at hl 0 rfl) ?_
    refine gm_getJ (C := RX11) (T := TX11) (N := 13) (j := 8) hx hb hts inT_11 hown hK hW k2 (by decide) rfl (by decide) rfl (hts _ kw_302) rfl dX11_producer_75 ?_
    refine lv_lconst (v := 1) hx hb dX11_producer_78 (by decide) ?_
    refine lv_lsub hx hb dX11_producer_79 ?_
    exact vx_ret (gm_lret hx hb hr hlocks hW hS hf dX11_producer_80)
  refine lv_if_ne (tgt := 64) hx hb dX11_producer_13 (by decide) (fun c5 => ?_) (fun c5 => ?_)
  · replace hf := hf.1 ((not_congr lg_eq).mp c5)
    exact j64 _ _ _ _ (lv_sub hl [0] rfl) hW hS hf
  · replace hf := hf.2 (lg_eq.mp c5)
    refine lv_aload_n hx hb dX11_producer_16 rfl (lv_at hl 0 rfl) ?_
    refine lv_dup hx hb dX11_producer_17 rfl ?_
    refine gm_getJ (C := RX11) (T := TX11) (N := 13) (j := 9) hx hb hts inT_11 hown hK hW k2 (by decide) rfl (by decide) rfl (hts _ kw_303) rfl dX11_producer_18 ?_
    refine lv_ldc2 (v := 100) hx hb hown (hts _ kw_494) dX11_producer_21 ?_
    refine lv_ladd hx hb dX11_producer_24 ?_
    refine gm_putJ (C := RX11) (T := TX11) (N := 13) (j := 9) hx hb hts inT_11 tyX11 tyX11_ok nmX11 hown hK hW hS k2 (by decide) rfl (by decide) rfl (hts _ kw_303) rfl rfl rfl rfl dX11_producer_25 (fun H locs M6 eM6 hW hS => ?_)
    replace hf := hf M6 eM6
    refine lv_aload_n hx hb dX11_producer_28 rfl (lv_at hl 0 rfl) ?_
    obtain ⟨b7, hb7, hf⟩ := hf
    refine gm_getR (C := RX11) (T := TX11) (N := 13) (j := 7) hx hb hts inT_11 hown hK hW k2 (by decide) rfl (by decide) rfl (hts _ kw_301) rfl dX11_producer_29 hb7 ?_
    refine lv_iconst (v := 0) hx hb dX11_producer_32 (by decide +kernel) ?_
    refine lv_bipush (v := 8) hx hb dX11_producer_33 (by decide +kernel) ?_
    refine lv_aload_n hx hb dX11_producer_35 rfl (lv_at hl 0 rfl) ?_
    refine gm_getJ (C := RX11) (T := TX11) (N := 13) (j := 9) hx hb hts inT_11 hown hK hW k2 (by decide) rfl (by decide) rfl (hts _ kw_303) rfl dX11_producer_36 ?_
    refine gm_cv (va_runS (As := [.ref b7, .int 0, .int 8, .long (mJ M6 v0 9)]) (rest := []) ⟨hx, hb, hml, hown, hts⟩ (m_X1_put l D cy tq _ Y _ _ _ _ _ _) (va_cwS 4 hts (good_S kw_449 kw_450 kw_17 kw_451) rfl rfl rfl (by decide +kernel) ⟨Nat.le_of_ble_eq_true rfl, Nat.le_of_ble_eq_true rfl⟩) (gm_preS hK hW hC hS hA hf) rfl rfl hl.1 rfl (lv_room (Nat.le_of_ble_eq_true rfl)) dX11_producer_39 ⟨Nat.le_of_ble_eq_true rfl, Nat.le_of_ble_eq_true rfl⟩) hW hS hA (fun M8 H locs hW hS hf => ?_)
    refine lv_aload_n hx hb dX11_producer_42 rfl (lv_at hl 0 rfl) ?_
    obtain ⟨b9, hb9, hf⟩ := hf
    refine gm_getR (C := RX11) (T := TX11) (N := 13) (j := 6) hx hb hts inT_11 hown hK hW k2 (by decide) rfl (by decide) rfl (hts _ kw_300) rfl dX11_producer_43 hb9 ?_
    refine lv_iconst (v := 0) hx hb dX11_producer_46 (by decide +kernel) ?_
    refine lv_aload_n hx hb dX11_producer_47 rfl (lv_at hl 0 rfl) ?_
    obtain ⟨b10, hb10, hf⟩ := hf
    refine gm_getR (C := RX11) (T := TX11) (N := 13) (j := 7) hx hb hts inT_11 hown hK hW k2 (by decide) rfl (by decide) rfl (hts _ kw_301) rfl dX11_producer_48 hb10 ?_
    refine lv_iconst (v := 0) hx hb dX11_producer_51 (by decide +kernel) ?_
    refine lv_bipush (v := 8) hx hb dX11_producer_52 (by decide +kernel) ?_
    obtain ⟨k13, hf⟩ := hf
    refine gm_ci (va_runV (As := [.int 0, .ref b10, .int 0, .int 8]) (rest := []) ⟨hx, hb, hml, hown, hts⟩ (m_X3_write l D cy tq _ Y _ _ _ _ _ _ _) (cwV 4 hts (good_V kw_845 kw_846 kw_847 kw_7 kw_848) rfl rfl rfl (by decide +kernel) ⟨Nat.le_of_ble_eq_true rfl, Nat.le_of_ble_eq_true rfl⟩) (gm_preV hK hW hC hS hA k13 (by decide) (q := (RX3, TX3, 4)) rfl rfl hf) rfl rfl hl.1 rfl (lv_room (Nat.le_of_ble_eq_true rfl)) dX11_producer_54 ⟨Nat.le_of_ble_eq_true rfl, Nat.le_of_ble_eq_true rfl⟩) hW hS hA (fun r12 M11 H locs hW hS hf => ?_)
    refine lv_if_ne (tgt := 64) hx hb dX11_producer_57 (by decide) (fun c14 => ?_) (fun c14 => ?_)
    · replace hf := hf.1 c14
      exact j64 _ _ _ _ (lv_sub hl [0] rfl) hW hS hf
    · replace hf := hf.2 c14
      refine lv_ldc2 (v := -3) hx hb hown (hts _ kw_851) dX11_producer_60 ?_
      exact vx_ret (gm_lret hx hb hr hlocks hW hS hf dX11_producer_63)

abbrev rm_X11_produce : Room := { frames := 8, cells := 2, slots := 12, locals := 229 }
def f_X11_produce (Y : Ly) (v0 : Nat) (v1 : Int32) (M : Mm) (Kn : Int64 → Mm → Prop) (Xn : String → Mm → Prop) : Prop :=
  yK Y v0 = 11 ∧ (f_X11_isForProducers Y v0 v1 M (fun r2 M1 => (f_X11_needArguments Y r2 M1 (fun M4 => (f_X11_needPower Y v0 M4 (fun M5 => (∀ x6 : Int32, x6 = mI M5 v0 2 → (∀ M7 : Mm, M7 = sI M5 v0 (m1 (mI M5 v0) 2 0) → (∃ b8 : Nat, mR M7 v0 4 = some b8 ∧ (∃ b9 : Nat, mR M7 v0 1 = some b9 ∧ (yK Y b8 = 5 ∧ (f_X5_examine Y b8 b9 x6 M7 (fun M10 => (∃ b12 : Nat, mR M10 v0 4 = some b12 ∧ (yK Y b12 = 5 ∧ (((mI M10 b12 0) = 0 → (∃ b15 : Nat, mR M10 v0 10 = some b15 ∧ (∃ b16 : Nat, mR M10 v0 10 = some b16 ∧ (yK Y b16 = 9 ∧ (∃ b18 : Nat, mR M10 b16 1 = some b18 ∧ (yK Y b18 = 104 ∧ (vp_in v1 (yN Y b18) ∧ (∃ b21 : Nat, mR M10 b18 v1.toNatClampNeg = some b21 ∧ (∃ b22 : Nat, mR M10 v0 1 = some b22 ∧ (yK Y b15 = 9 ∧ (f_X9_accept Y b15 b21 b22 x6 M10 (fun r24 M23 => (Kn r24 M23))))))))))))) ∧ (¬ ((mI M10 b12 0) = 0) → (Kn (-4) M10))))))))))))) Xn)) Xn)))
set_option maxHeartbeats 4000000 in
set_option maxRecDepth 100000 in
theorem m_X11_produce (l : Launch) (hlt : l.stackTraces = false) (D : va_G) (cy : Cy) (tq sz : Nat) (Y : Ly) (v0 : Nat) (v1 : Int32) (M : Mm) (Kn : Int64 → Mm → Prop) (Xn : String → Mm → Prop) : vx_Met l yX11_produce (Cond.code yX11_produce cX11_produce 3 (some .long) :: TT) rm_X11_produce (PcG D cy tq [.ref v0, .int v1] sz Y M (f_X11_produce Y v0 v1 M Kn Xn)) (va_Ql Kn (BG D cy (Am Y sz) Y) (Am Y sz)) (XX D cy (Am Y sz) Y Xn) 2 12 (Am Y sz) := by
  refine vx_ofW (cc := cX11_produce) (maxL := 3) (ret := (some .long)) (by decide) rfl ?_
  intro p e s m args below meth c s₁ B hml hno hv
  obtain ⟨hargs, hsz, hW, hK, hC, hf⟩ := hv
  subst hsz
  have hx := B.exec
  have hb := B.bytes
  have hr := B.returns
  have hts : ∀ w ∈ TT, w.before args s = true := fun w h => atoms_spec (ws := Cond.code yX11_produce cX11_produce 3 (some .long) :: TT) B.pre w (List.mem_cons_of_mem _ h)
  have hown : s.vm.findClass RX11 = some m.cls := findClass_of_methodNamed B.named
  have hlocks := B.notSynchronized
  replace hW := Wd_self (sz := s.heap.size) hW
  generalize hAe : Am Y s.heap.size = A at hW hC ⊢
  have hA : ∀ q : Nat, s.heap.size ≤ q → A q := fun q h => by rw [← hAe]; exact Or.inr h
  clear hAe
  have hS : va_S A s.heap s.heap [] := va_S.rf
  obtain ⟨ls, hE, hl⟩ := gm_entry m [.ref v0, .int v1] (n := 3) hargs (Nat.le_of_ble_eq_true rfl)
  rw [hE]
  have hl : lv_has ls 3 [(0, .ref v0), (1, .int v1)] := hl
  show W p l e rm_X11_produce s m args below meth c s.heap [] 0 0 (vx_MQ below (va_Ql Kn (BG D cy A Y) A) (XX D cy A Y Xn) args s 2 12 A) (F0 m 0 ls [])
  unfold f_X11_produce at hf
  refine lv_aload_n hx hb dX11_produce_0 rfl (lv_at hl 0 rfl) ?_
  refine lv_iload_n hx hb dX11_produce_1 rfl (lv_at hl 1 rfl) ?_
  obtain ⟨k3, hf⟩ := hf
  refine gm_ci (va_runV (As := [.int v1]) (rest := []) ⟨hx, hb, hml, hown, hts⟩ (m_X11_isForProducers l D cy tq _ Y _ _ _ _) (cwV 1 hts (good_V kw_859 kw_860 kw_1795 kw_1 kw_861) rfl rfl rfl (by decide +kernel) ⟨Nat.le_of_ble_eq_true rfl, Nat.le_of_ble_eq_true rfl⟩) (gm_preV hK hW hC hS hA k3 (by decide) (q := (RX11, TX11, 13)) rfl rfl hf) rfl rfl hl.1 rfl (lv_room (Nat.le_of_ble_eq_true rfl)) dX11_produce_2 ⟨Nat.le_of_ble_eq_true rfl, Nat.le_of_ble_eq_true rfl⟩) hW hS hA (fun r2 M1 H locs hW hS hf => ?_)
  refine gx_cv (vx_runS (As := [.int r2]) (rest := []) ⟨hx, hb, hml, hown, hts⟩ (m_X11_needArguments l hlt D cy tq _ Y _ _ _ _) (va_cwS 1 hts (good_S kw_463 kw_464 kw_1 kw_465) rfl rfl rfl (by decide +kernel) ⟨Nat.le_of_ble_eq_true rfl, Nat.le_of_ble_eq_true rfl⟩) (gm_preS hK hW hC hS hA hf) rfl rfl hl.1 rfl (lv_room (Nat.le_of_ble_eq_true rfl)) dX11_produce_5 ⟨Nat.le_of_ble_eq_true rfl, Nat.le_of_ble_eq_true rfl⟩) hW hS hA (fun E M9 H locs ce q9 hW hS hf h1 h2 h3 => gx_out hno hlocks hW hS hf h1 h2 h3 (Nat.le_of_ble_eq_true rfl) (Nat.le_of_ble_eq_true rfl)) (fun M4 H locs hW hS hf => ?_)
  refine lv_aload_n hx hb dX11_produce_8 rfl (lv_at hl 0 rfl) ?_
  refine gx_cv (vx_runV (As := []) (rest := []) ⟨hx, hb, hml, hown, hts⟩ (m_X11_needPower l hlt D cy tq _ Y _ _ _ _) (cwV 0 hts (good_V kw_842 kw_843 kw_1794 kw_1 kw_844) rfl rfl rfl (by decide +kernel) ⟨Nat.le_of_ble_eq_true rfl, Nat.le_of_ble_eq_true rfl⟩) (gm_preV hK hW hC hS hA k3 (by decide) (q := (RX11, TX11, 13)) rfl rfl hf) rfl rfl hl.1 rfl (lv_room (Nat.le_of_ble_eq_true rfl)) dX11_produce_9 ⟨Nat.le_of_ble_eq_true rfl, Nat.le_of_ble_eq_true rfl⟩) hW hS hA (fun E M9 H locs ce q9 hW hS hf h1 h2 h3 => gx_out hno hlocks hW hS hf h1 h2 h3 (Nat.le_of_ble_eq_true rfl) (Nat.le_of_ble_eq_true rfl)) (fun M5 H locs hW hS hf => ?_)
  refine lv_aload_n hx hb dX11_produce_12 rfl (lv_at hl 0 rfl) ?_
  refine gm_getI (C := RX11) (T := TX11) (N := 13) (j := 2) hx hb hts inT_11 hown hK hW k3 (by decide) rfl (by decide) rfl (hts _ kw_296) rfl dX11_produce_13 ?_
  refine lv_topi (fun x6 ex6 => ?_)
  replace hf := hf x6 ex6
  refine lv_istore_n (lv' := [(2, .int x6), (0, .ref v0), (1, .int v1)]) hx hb dX11_produce_16 rfl hl (by decide) rfl (fun ls hl => ?_)
  refine lv_aload_n hx hb dX11_produce_17 rfl (lv_at hl 1 rfl) ?_
  refine lv_iconst (v := 0) hx hb dX11_produce_18 (by decide +kernel) ?_
  refine gm_putI (C := RX11) (T := TX11) (N := 13) (j := 2) hx hb hts inT_11 tyX11 tyX11_ok nmX11 hown hK hW hS k3 (by decide) rfl (by decide) rfl (hts _ kw_296) rfl rfl rfl rfl dX11_produce_19 (fun H locs M7 eM7 hW hS => ?_)
  replace hf := hf M7 eM7
  refine lv_aload_n hx hb dX11_produce_22 rfl (lv_at hl 1 rfl) ?_
  obtain ⟨b8, hb8, hf⟩ := hf
  refine gm_getR (C := RX11) (T := TX11) (N := 13) (j := 4) hx hb hts inT_11 hown hK hW k3 (by decide) rfl (by decide) rfl (hts _ kw_298) rfl dX11_produce_23 hb8 ?_
  refine lv_aload_n hx hb dX11_produce_26 rfl (lv_at hl 1 rfl) ?_
  obtain ⟨b9, hb9, hf⟩ := hf
  refine gm_getR (C := RX11) (T := TX11) (N := 13) (j := 1) hx hb hts inT_11 hown hK hW k3 (by decide) rfl (by decide) rfl (hts _ kw_295) rfl dX11_produce_27 hb9 ?_
  refine lv_iload_n hx hb dX11_produce_30 rfl (lv_at hl 0 rfl) ?_
  obtain ⟨k11, hf⟩ := hf
  refine gm_cv (va_runV (As := [.ref b9, .int x6]) (rest := []) ⟨hx, hb, hml, hown, hts⟩ (m_X5_examine l D cy tq _ Y _ _ _ _ _) (cwV 2 hts (good_V kw_770 kw_771 kw_772 kw_3 kw_773) rfl rfl rfl (by decide +kernel) ⟨Nat.le_of_ble_eq_true rfl, Nat.le_of_ble_eq_true rfl⟩) (gm_preV hK hW hC hS hA k11 (by decide) (q := (RX5, TX5, 3)) rfl rfl hf) rfl rfl hl.1 rfl (lv_room (Nat.le_of_ble_eq_true rfl)) dX11_produce_31 ⟨Nat.le_of_ble_eq_true rfl, Nat.le_of_ble_eq_true rfl⟩) hW hS hA (fun M10 H locs hW hS hf => ?_)
  refine lv_aload_n hx hb dX11_produce_34 rfl (lv_at hl 1 rfl) ?_
  obtain ⟨b12, hb12, hf⟩ := hf
  refine gm_getR (C := RX11) (T := TX11) (N := 13) (j := 4) hx hb hts inT_11 hown hK hW k3 (by decide) rfl (by decide) rfl (hts _ kw_298) rfl dX11_produce_35 hb12 ?_
  obtain ⟨k13, hf⟩ := hf
  refine gm_getI (C := RX5) (T := TX5) (N := 3) (j := 0) hx hb hts inT_5 hown hK hW k13 (by decide) rfl (by decide) rfl (hts _ kw_101) rfl dX11_produce_38 ?_
  refine lv_if_eq (tgt := 48) hx hb dX11_produce_41 (by decide) (fun c14 => ?_) (fun c14 => ?_)
  · replace hf := hf.1 c14
    refine lv_aload_n hx hb dX11_produce_48 rfl (lv_at hl 1 rfl) ?_
    obtain ⟨b15, hb15, hf⟩ := hf
    refine gm_getR (C := RX11) (T := TX11) (N := 13) (j := 10) hx hb hts inT_11 hown hK hW k3 (by decide) rfl (by decide) rfl (hts _ kw_304) rfl dX11_produce_49 hb15 ?_
    refine lv_aload_n hx hb dX11_produce_52 rfl (lv_at hl 1 rfl) ?_
    obtain ⟨b16, hb16, hf⟩ := hf
    refine gm_getR (C := RX11) (T := TX11) (N := 13) (j := 10) hx hb hts inT_11 hown hK hW k3 (by decide) rfl (by decide) rfl (hts _ kw_304) rfl dX11_produce_53 hb16 ?_
    obtain ⟨k17, hf⟩ := hf
    obtain ⟨b18, hb18, hf⟩ := hf
    refine gm_getR (C := RX9) (T := TX9) (N := 7) (j := 1) hx hb hts inT_9 hown hK hW k17 (by decide) rfl (by decide) rfl (hts _ kw_218) rfl dX11_produce_56 hb18 ?_
    refine lv_iload_n hx hb dX11_produce_59 rfl (lv_at hl 2 rfl) ?_
    obtain ⟨k19, hf⟩ := hf
    obtain ⟨h20, hf⟩ := hf
    obtain ⟨b21, hb21, hf⟩ := hf
    refine gm_aald hx hb hK hW k19 h20 hb21 dX11_produce_60 ?_
    refine lv_aload_n hx hb dX11_produce_61 rfl (lv_at hl 1 rfl) ?_
    obtain ⟨b22, hb22, hf⟩ := hf
    refine gm_getR (C := RX11) (T := TX11) (N := 13) (j := 1) hx hb hts inT_11 hown hK hW k3 (by decide) rfl (by decide) rfl (hts _ kw_295) rfl dX11_produce_62 hb22 ?_
    refine lv_iload_n hx hb dX11_produce_65 rfl (lv_at hl 0 rfl) ?_
    obtain ⟨k25, hf⟩ := hf
    refine gm_cl (va_runV (As := [.ref b21, .ref b22, .int x6]) (rest := []) ⟨hx, hb, hml, hown, hts⟩ (m_X9_accept l D cy tq _ Y _ _ _ _ _ _) (cwV 3 hts (good_V kw_863 kw_864 kw_865 kw_8 kw_866) rfl rfl rfl (by decide +kernel) ⟨Nat.le_of_ble_eq_true rfl, Nat.le_of_ble_eq_true rfl⟩) (gm_preV hK hW hC hS hA k25 (by decide) (q := (RX9, TX9, 7)) rfl rfl hf) rfl rfl hl.1 rfl (lv_room (Nat.le_of_ble_eq_true rfl)) dX11_produce_66 ⟨Nat.le_of_ble_eq_true rfl, Nat.le_of_ble_eq_true rfl⟩) hW hS hA (fun r24 M23 H locs hW hS hf => ?_)
    exact vx_ret (gm_lret hx hb hr hlocks hW hS hf dX11_produce_69)
  · replace hf := hf.2 c14
    refine lv_ldc2 (v := -4) hx hb hown (hts _ kw_862) dX11_produce_44 ?_
    exact vx_ret (gm_lret hx hb hr hlocks hW hS hf dX11_produce_47)

abbrev rm_X11_known : Room := { frames := 8, cells := 2, slots := 12, locals := 199 }
def f_X11_known_32 (Y : Ly) (v0 : Nat) (v1 : Int32) (v2 : Int64) (v4 : Int32) (Kn : Int64 → Mm → Prop) (Xn : String → Mm → Prop) (y4 : Int32) (M5 : Mm) : Prop :=
  f_X11_needArguments Y y4 M5 (fun M6 => (f_X11_needPower Y v0 M6 (fun M7 => (∃ b8 : Nat, mR M7 v0 10 = some b8 ∧ (yK Y b8 = 9 ∧ (∃ b10 : Nat, mR M7 b8 1 = some b10 ∧ (yK Y b10 = 104 ∧ (vp_in v1 (yN Y b10) ∧ (∃ b13 : Nat, mR M7 b10 v1.toNatClampNeg = some b13 ∧ ((¬ v4 = 0 → (∃ b15 : Nat, mR M7 v0 10 = some b15 ∧ (yK Y b15 = 9 ∧ (f_X9_knownAt Y b15 b13 v2 0 M7 (fun r17 M16 => ((¬ r17 = (-1) → ((v4 = 1 → (∃ b21 : Nat, mR M16 v0 6 = some b21 ∧ (yK Y b21 = 3 ∧ (∃ b23 : Nat, mR M16 b21 0 = some b23 ∧ (f_X0_epochOf Y b23 r17 M16 (fun r25 M24 => (Kn r25.toInt64 M24))))))) ∧ (v4 = 2 → (∃ b26 : Nat, mR M16 v0 6 = some b26 ∧ (yK Y b26 = 3 ∧ (∃ b28 : Nat, mR M16 b26 0 = some b28 ∧ (f_X0_nextSequenceOf Y b28 r17 M16 (fun r30 M29 => (Kn r30.toInt64 M29))))))) ∧ (¬ v4 = 1 → ¬ v4 = 2 → (∃ b31 : Nat, mR M16 v0 6 = some b31 ∧ (yK Y b31 = 3 ∧ (∃ b33 : Nat, mR M16 b31 0 = some b33 ∧ (f_X0_baseOf Y b33 r17 M16 (fun r35 M34 => (Kn r35 M34))))))))) ∧ (r17 = (-1) → (Kn (-1) M16)))))))) ∧ (v4 = 0 → (∃ b36 : Nat, mR M7 v0 10 = some b36 ∧ (yK Y b36 = 9 ∧ (f_X9_knownCount Y b36 b13 v2 M7 (fun r38 M37 => (Kn r38.toInt64 M37)))))))))))))) Xn)) Xn
def f_X11_known_31 (Y : Ly) (v0 : Nat) (v1 : Int32) (v2 : Int64) (v4 : Int32) (Kn : Int64 → Mm → Prop) (Xn : String → Mm → Prop) (M40 : Mm) : Prop :=
  f_X11_known_32 Y v0 v1 v2 v4 Kn Xn 0 M40
def f_X11_known (Y : Ly) (v0 : Nat) (v1 : Int32) (v2 : Int64) (v4 : Int32) (M : Mm) (Kn : Int64 → Mm → Prop) (Xn : String → Mm → Prop) : Prop :=
  yK Y v0 = 11 ∧ (f_X11_isLog Y v0 v1 M (fun r2 M1 => ((r2 = 0 → (f_X11_known_31 Y v0 v1 v2 v4 Kn Xn M1)) ∧ (¬ (r2 = 0) → ((v2 < 0 → (f_X11_known_31 Y v0 v1 v2 v4 Kn Xn M1)) ∧ (¬ (v2 < 0) → (f_X11_isWithin Y v4.toInt64 0 3 M1 (fun r44 M43 => ((r44 = 0 → (f_X11_known_31 Y v0 v1 v2 v4 Kn Xn M43)) ∧ (¬ (r44 = 0) → (f_X11_known_32 Y v0 v1 v2 v4 Kn Xn 1 M43)))))))))))
set_option maxHeartbeats 4000000 in
set_option maxRecDepth 100000 in
theorem m_X11_known (l : Launch) (hlt : l.stackTraces = false) (D : va_G) (cy : Cy) (tq sz : Nat) (Y : Ly) (v0 : Nat) (v1 : Int32) (v2 : Int64) (v4 : Int32) (M : Mm) (Kn : Int64 → Mm → Prop) (Xn : String → Mm → Prop) : vx_Met l yX11_known (Cond.code yX11_known cX11_known 7 (some .long) :: TT) rm_X11_known (PcG D cy tq [.ref v0, .int v1, .long v2, .int v4] sz Y M (f_X11_known Y v0 v1 v2 v4 M Kn Xn)) (va_Ql Kn (BG D cy (Am Y sz) Y) (Am Y sz)) (XX D cy (Am Y sz) Y Xn) 2 12 (Am Y sz) := by
  refine vx_ofW (cc := cX11_known) (maxL := 7) (ret := (some .long)) (by decide) rfl ?_
  intro p e s m args below meth c s₁ B hml hno hv
  obtain ⟨hargs, hsz, hW, hK, hC, hf⟩ := hv
  subst hsz
  have hx := B.exec
  have hb := B.bytes
  have hr := B.returns
  have hts : ∀ w ∈ TT, w.before args s = true := fun w h => atoms_spec (ws := Cond.code yX11_known cX11_known 7 (some .long) :: TT) B.pre w (List.mem_cons_of_mem _ h)
  have hown : s.vm.findClass RX11 = some m.cls := findClass_of_methodNamed B.named
  have hlocks := B.notSynchronized
  replace hW := Wd_self (sz := s.heap.size) hW
  generalize hAe : Am Y s.heap.size = A at hW hC ⊢
  have hA : ∀ q : Nat, s.heap.size ≤ q → A q := fun q h => by rw [← hAe]; exact Or.inr h
  clear hAe
  have hS : va_S A s.heap s.heap [] := va_S.rf
  obtain ⟨ls, hE, hl⟩ := gm_entry m [.ref v0, .int v1, .long v2, .int v4] (n := 7) hargs (Nat.le_of_ble_eq_true rfl)
  rw [hE]
  have hl : lv_has ls 7 [(0, .ref v0), (1, .int v1), (2, .long v2), (4, .int v4)] := hl
  show W p l e rm_X11_known s m args below meth c s.heap [] 0 0 (vx_MQ below (va_Ql Kn (BG D cy A Y) A) (XX D cy A Y Xn) args s 2 12 A) (F0 m 0 ls [])
  unfold f_X11_known at hf
  refine lv_aload_n hx hb dX11_known_0 rfl (lv_at hl 0 rfl) ?_
  refine lv_iload_n hx hb dX11_known_1 rfl (lv_at hl 1 rfl) ?_
  obtain ⟨k3, hf⟩ := hf
  refine gm_ci (va_runV (As := [.int v1]) (rest := []) ⟨hx, hb, hml, hown, hts⟩ (m_X11_isLog l D cy tq _ Y _ _ _ _) (cwV 1 hts (good_V kw_932 kw_933 kw_1801 kw_1 kw_934) rfl rfl rfl (by decide +kernel) ⟨Nat.le_of_ble_eq_true rfl, Nat.le_of_ble_eq_true rfl⟩) (gm_preV hK hW hC hS hA k3 (by decide) (q := (RX11, TX11, 13)) rfl rfl hf) rfl rfl hl.1 rfl (lv_room (Nat.le_of_ble_eq_true rfl)) dX11_known_2 ⟨Nat.le_of_ble_eq_true rfl, Nat.le_of_ble_eq_true rfl⟩) hW hS hA (fun r2 M1 H locs hW hS hf => ?_)
  have j32 : ∀ (y4 : Int32) (M5 : Mm) (H : Heap) (locs : List Loc) (ls : Array Slot), lv_has ls 7 [(0, .ref v0), (1, .int v1), (2, .long v2), (4, .int v4)] → Wd D cy A Y M5 H → va_S A s.heap H locs → f_X11_known_32 Y v0 v1 v2 v4 Kn Xn y4 M5 → W p l e rm_X11_known s m args below meth c H locs 0 0 (vx_MQ below (va_Ql Kn (BG D cy A Y) A) (XX D cy A Y Xn) args s 2 12 A) (F0 m 32 ls [.int y4]) := by
    intro y4 M5 H locs ls hl hW hS hf
    unfold f_X11_known_32 at hf
    refine gx_cv (vx_runS (As := [.int y4]) (rest := []) ⟨hx, hb, hml, hown, hts⟩ (m_X11_needArguments l hlt D cy tq _ Y _ _ _ _) (va_cwS 1 hts (good_S kw_463 kw_464 kw_1 kw_465) rfl rfl rfl (by decide +kernel) ⟨Nat.le_of_ble_eq_true rfl, Nat.le_of_ble_eq_true rfl⟩) (gm_preS hK hW hC hS hA hf) rfl rfl hl.1 rfl (lv_room (Nat.le_of_ble_eq_true rfl)) dX11_known_32 ⟨Nat.le_of_ble_eq_true rfl, Nat.le_of_ble_eq_true rfl⟩) hW hS hA (fun E M9 H locs ce q9 hW hS hf h1 h2 h3 => gx_out hno hlocks hW hS hf h1 h2 h3 (Nat.le_of_ble_eq_true rfl) (Nat.le_of_ble_eq_true rfl)) (fun M6 H locs hW hS hf => ?_)
    refine lv_aload_n hx hb dX11_known_35 rfl (lv_at hl 0 rfl) ?_
    refine gx_cv (vx_runV (As := []) (rest := []) ⟨hx, hb, hml, hown, hts⟩ (m_X11_needPower l hlt D cy tq _ Y _ _ _ _) (cwV 0 hts (good_V kw_842 kw_843 kw_1794 kw_1 kw_844) rfl rfl rfl (by decide +kernel) ⟨Nat.le_of_ble_eq_true rfl, Nat.le_of_ble_eq_true rfl⟩) (gm_preV hK hW hC hS hA k3 (by decide) (q := (RX11, TX11, 13)) rfl rfl hf) rfl rfl hl.1 rfl (lv_room (Nat.le_of_ble_eq_true rfl)) dX11_known_36 ⟨Nat.le_of_ble_eq_true rfl, Nat.le_of_ble_eq_true rfl⟩) hW hS hA (fun E M9 H locs ce q9 hW hS hf h1 h2 h3 => gx_out hno hlocks hW hS hf h1 h2 h3 (Nat.le_of_ble_eq_true rfl) (Nat.le_of_ble_eq_true rfl)) (fun M7 H locs hW hS hf => ?_)
    refine lv_aload_n hx hb dX11_known_39 rfl (lv_at hl 0 rfl) ?_
    obtain ⟨b8, hb8, hf⟩ := hf
    refine gm_getR (C := RX11) (T := TX11) (N := 13) (j := 10) hx hb hts inT_11 hown hK hW k3 (by decide) rfl (by decide) rfl (hts _ kw_304) rfl dX11_known_40 hb8 ?_
    obtain ⟨k9, hf⟩ := hf
    obtain ⟨b10, hb10, hf⟩ := hf
    refine gm_getR (C := RX9) (T := TX9) (N := 7) (j := 1) hx hb hts inT_9 hown hK hW k9 (by decide) rfl (by decide) rfl (hts _ kw_218) rfl dX11_known_43 hb10 ?_
    refine lv_iload_n hx hb dX11_known_46 rfl (lv_at hl 1 rfl) ?_
    obtain ⟨k11, hf⟩ := hf
    obtain ⟨h12, hf⟩ := hf
    obtain ⟨b13, hb13, hf⟩ := hf
    refine gm_aald hx hb hK hW k11 h12 hb13 dX11_known_47 ?_
    refine lv_astore (lv' := [(5, .ref b13), (0, .ref v0), (1, .int v1), (2, .long v2), (4, .int v4)]) hx hb dX11_known_48 hl (by decide) rfl (fun ls hl => ?_)
    refine lv_iload hx hb dX11_known_50 (lv_at hl 4 rfl) ?_
    refine lv_if_ne (tgt := 67) hx hb dX11_known_52 (by decide) (fun c14 => ?_) (fun c14 => ?_)
    · replace hf := hf.1 c14
      refine lv_aload_n hx hb dX11_known_67 rfl (lv_at hl 1 rfl) ?_
      obtain ⟨b15, hb15, hf⟩ := hf
      refine gm_getR (C := RX11) (T := TX11) (N := 13) (j := 10) hx hb hts inT_11 hown hK hW k3 (by decide) rfl (by decide) rfl (hts _ kw_304) rfl dX11_known_68 hb15 ?_
      refine lv_aload hx hb dX11_known_71 (lv_at hl 0 rfl) ?_
      refine lv_lload_n hx hb dX11_known_73 rfl (lv_at hl 3 rfl) ?_
      refine lv_iconst (v := 0) hx hb dX11_known_74 (by decide +kernel) ?_
      obtain ⟨k18, hf⟩ := hf
      refine gm_ci (va_runV (As := [.ref b13, .long v2, .int 0]) (rest := []) ⟨hx, hb, hml, hown, hts⟩ (m_X9_knownAt l D cy tq _ Y _ _ _ _ _ _) (cwV 3 hts (good_V kw_940 kw_873 kw_874 kw_8 kw_875) rfl rfl rfl (by decide +kernel) ⟨Nat.le_of_ble_eq_true rfl, Nat.le_of_ble_eq_true rfl⟩) (gm_preV hK hW hC hS hA k18 (by decide) (q := (RX9, TX9, 7)) rfl rfl hf) rfl rfl hl.1 rfl (lv_room (Nat.le_of_ble_eq_true rfl)) dX11_known_75 ⟨Nat.le_of_ble_eq_true rfl, Nat.le_of_ble_eq_true rfl⟩) hW hS hA (fun r17 M16 H locs hW hS hf => ?_)
      refine lv_istore (lv' := [(6, .int r17), (5, .ref b13), (0, .ref v0), (1, .int v1), (2, .long v2), (4, .int v4)]) hx hb dX11_known_78 hl (by decide) rfl (fun ls hl => ?_)
      refine lv_iload hx hb dX11_known_80 (lv_at hl 0 rfl) ?_
      refine lv_iconst (v := -1) hx hb dX11_known_82 (by decide +kernel) ?_
      refine lv_icmp_ne (tgt := 90) hx hb dX11_known_83 (by decide) (fun c19 => ?_) (fun c19 => ?_)
      · replace hf := hf.1 c19
        refine lv_iload hx hb dX11_known_90 (lv_at hl 5 rfl) ?_
        by_cases c20_1 : v4 = 1
        · replace hf := hf.1 c20_1
          refine lv_lookup (off := 28) (tgt := 120) hx hb dX11_known_92 (by decide) (by rw [c20_1]; rfl) (by decide) ?_
          refine lv_aload_n hx hb dX11_known_120 rfl (lv_at hl 2 rfl) ?_
          obtain ⟨b21, hb21, hf⟩ := hf
          refine gm_getR (C := RX11) (T := TX11) (N := 13) (j := 6) hx hb hts inT_11 hown hK hW k3 (by decide) rfl (by decide) rfl (hts _ kw_300) rfl dX11_known_121 hb21 ?_
          obtain ⟨k22, hf⟩ := hf
          obtain ⟨b23, hb23, hf⟩ := hf
          refine gm_getR (C := RX3) (T := TX3) (N := 4) (j := 0) hx hb hts inT_3 hown hK hW k22 (by decide) rfl (by decide) rfl (hts _ kw_145) rfl dX11_known_124 hb23 ?_
          refine lv_iload hx hb dX11_known_127 (lv_at hl 0 rfl) ?_
          refine gm_ci (va_runS (As := [.ref b23, .int r17]) (rest := []) ⟨hx, hb, hml, hown, hts⟩ (m_X0_epochOf l D cy tq _ Y _ _ _ _) (va_cwS 2 hts (good_S kw_941 kw_803 kw_20 kw_804) rfl rfl rfl (by decide +kernel) ⟨Nat.le_of_ble_eq_true rfl, Nat.le_of_ble_eq_true rfl⟩) (gm_preS hK hW hC hS hA hf) rfl rfl hl.1 rfl (lv_room (Nat.le_of_ble_eq_true rfl)) dX11_known_129 ⟨Nat.le_of_ble_eq_true rfl, Nat.le_of_ble_eq_true rfl⟩) hW hS hA (fun r25 M24 H locs hW hS hf => ?_)
          refine lv_i2l hx hb dX11_known_132 rfl ?_
          exact vx_ret (gm_lret hx hb hr hlocks hW hS hf dX11_known_133)
        by_cases c20_2 : v4 = 2
        · replace hf := hf.2.1 c20_2
          refine lv_lookup (off := 42) (tgt := 134) hx hb dX11_known_92 (by decide) (by rw [c20_2]; rfl) (by decide) ?_
          refine lv_aload_n hx hb dX11_known_134 rfl (lv_at hl 2 rfl) ?_
          obtain ⟨b26, hb26, hf⟩ := hf
          refine gm_getR (C := RX11) (T := TX11) (N := 13) (j := 6) hx hb hts inT_11 hown hK hW k3 (by decide) rfl (by decide) rfl (hts _ kw_300) rfl dX11_known_135 hb26 ?_
          obtain ⟨k27, hf⟩ := hf
          obtain ⟨b28, hb28, hf⟩ := hf
          refine gm_getR (C := RX3) (T := TX3) (N := 4) (j := 0) hx hb hts inT_3 hown hK hW k27 (by decide) rfl (by decide) rfl (hts _ kw_145) rfl dX11_known_138 hb28 ?_
          refine lv_iload hx hb dX11_known_141 (lv_at hl 0 rfl) ?_
          refine gm_ci (va_runS (As := [.ref b28, .int r17]) (rest := []) ⟨hx, hb, hml, hown, hts⟩ (m_X0_nextSequenceOf l D cy tq _ Y _ _ _ _) (va_cwS 2 hts (good_S kw_942 kw_886 kw_20 kw_887) rfl rfl rfl (by decide +kernel) ⟨Nat.le_of_ble_eq_true rfl, Nat.le_of_ble_eq_true rfl⟩) (gm_preS hK hW hC hS hA hf) rfl rfl hl.1 rfl (lv_room (Nat.le_of_ble_eq_true rfl)) dX11_known_143 ⟨Nat.le_of_ble_eq_true rfl, Nat.le_of_ble_eq_true rfl⟩) hW hS hA (fun r30 M29 H locs hW hS hf => ?_)
          refine lv_i2l hx hb dX11_known_146 rfl ?_
          exact vx_ret (gm_lret hx hb hr hlocks hW hS hf dX11_known_147)
        replace hf := hf.2.2 c20_1 c20_2
        refine lv_lookup (off := 56) (tgt := 148) hx hb dX11_known_92 (by decide) (lk_none c20_1 c20_2) (by decide) ?_
        refine lv_aload_n hx hb dX11_known_148 rfl (lv_at hl 2 rfl) ?_
        obtain ⟨b31, hb31, hf⟩ := hf
        refine gm_getR (C := RX11) (T := TX11) (N := 13) (j := 6) hx hb hts inT_11 hown hK hW k3 (by decide) rfl (by decide) rfl (hts _ kw_300) rfl dX11_known_149 hb31 ?_
        obtain ⟨k32, hf⟩ := hf
        obtain ⟨b33, hb33, hf⟩ := hf
        refine gm_getR (C := RX3) (T := TX3) (N := 4) (j := 0) hx hb hts inT_3 hown hK hW k32 (by decide) rfl (by decide) rfl (hts _ kw_145) rfl dX11_known_152 hb33 ?_
        refine lv_iload hx hb dX11_known_155 (lv_at hl 0 rfl) ?_
        refine gm_cl (va_runS (As := [.ref b33, .int r17]) (rest := []) ⟨hx, hb, hml, hown, hts⟩ (m_X0_baseOf l D cy tq _ Y _ _ _ _) (va_cwS 2 hts (good_S kw_943 kw_788 kw_20 kw_789) rfl rfl rfl (by decide +kernel) ⟨Nat.le_of_ble_eq_true rfl, Nat.le_of_ble_eq_true rfl⟩) (gm_preS hK hW hC hS hA hf) rfl rfl hl.1 rfl (lv_room (Nat.le_of_ble_eq_true rfl)) dX11_known_157 ⟨Nat.le_of_ble_eq_true rfl, Nat.le_of_ble_eq_true rfl⟩) hW hS hA (fun r35 M34 H locs hW hS hf => ?_)
        exact vx_ret (gm_lret hx hb hr hlocks hW hS hf dX11_known_160)
      · replace hf := hf.2 c19
        refine lv_ldc2 (v := -1) hx hb hown (hts _ kw_495) dX11_known_86 ?_
        exact vx_ret (gm_lret hx hb hr hlocks hW hS hf dX11_known_89)
    · replace hf := hf.2 c14
      refine lv_aload_n hx hb dX11_known_55 rfl (lv_at hl 1 rfl) ?_
      obtain ⟨b36, hb36, hf⟩ := hf
      refine gm_getR (C := RX11) (T := TX11) (N := 13) (j := 10) hx hb hts inT_11 hown hK hW k3 (by decide) rfl (by decide) rfl (hts _ kw_304) rfl dX11_known_56 hb36 ?_
      refine lv_aload hx hb dX11_known_59 (lv_at hl 0 rfl) ?_
      refine lv_lload_n hx hb dX11_known_61 rfl (lv_at hl 3 rfl) ?_
      obtain ⟨k39, hf⟩ := hf
      refine gm_ci (va_runV (As := [.ref b13, .long v2]) (rest := []) ⟨hx, hb, hml, hown, hts⟩ (m_X9_knownCount l D cy tq _ Y _ _ _ _ _) (cwV 2 hts (good_V kw_936 kw_937 kw_938 kw_8 kw_939) rfl rfl rfl (by decide +kernel) ⟨Nat.le_of_ble_eq_true rfl, Nat.le_of_ble_eq_true rfl⟩) (gm_preV hK hW hC hS hA k39 (by decide) (q := (RX9, TX9, 7)) rfl rfl hf) rfl rfl hl.1 rfl (lv_room (Nat.le_of_ble_eq_true rfl)) dX11_known_62 ⟨Nat.le_of_ble_eq_true rfl, Nat.le_of_ble_eq_true rfl⟩) hW hS hA (fun r38 M37 H locs hW hS hf => ?_)
      refine lv_i2l hx hb dX11_known_65 rfl ?_
      exact vx_ret (gm_lret hx hb hr hlocks hW hS hf dX11_known_66)
  have j31 : ∀ (M40 : Mm) (H : Heap) (locs : List Loc) (ls : Array Slot), lv_has ls 7 [(0, .ref v0), (1, .int v1), (2, .long v2), (4, .int v4)] → Wd D cy A Y M40 H → va_S A s.heap H locs → f_X11_known_31 Y v0 v1 v2 v4 Kn Xn M40 → W p l e rm_X11_known s m args below meth c H locs 0 0 (vx_MQ below (va_Ql Kn (BG D cy A Y) A) (XX D cy A Y Xn) args s 2 12 A) (F0 m 31 ls []) := by
    intro M40 H locs ls hl hW hS hf
    unfold f_X11_known_31 at hf
    refine lv_iconst (v := 0) hx hb dX11_known_31 (by decide +kernel) ?_
    exact j32 _ _ _ _ _ (lv_sub hl [0, 1, 2, 3] rfl) hW hS hf
  refine lv_if_eq (tgt := 31) hx hb dX11_known_5 (by decide) (fun c41 => ?_) (fun c41 => ?_)
  · replace hf := hf.1 c41
    exact j31 _ _ _ _ (lv_sub hl [0, 1, 2, 3] rfl) hW hS hf
  · replace hf := hf.2 c41
    refine lv_lload_n hx hb dX11_known_8 rfl (lv_at hl 2 rfl) ?_
    refine lv_lconst (v := 0) hx hb dX11_known_9 (by decide) ?_
    refine W.lcmp hx hb dX11_known_10 ?_
    refine lv_if_lt (tgt := 31) hx hb dX11_known_11 (by decide) (fun c42 => ?_) (fun c42 => ?_)
    · replace hf := hf.1 (lg_lt.mp c42)
      exact j31 _ _ _ _ (lv_sub hl [0, 1, 2, 3] rfl) hW hS hf
    · replace hf := hf.2 (fun z => c42 (lg_lt.mpr z))
      refine lv_iload hx hb dX11_known_14 (lv_at hl 3 rfl) ?_
      refine lv_i2l hx hb dX11_known_16 rfl ?_
      refine lv_lconst (v := 0) hx hb dX11_known_17 (by decide) ?_
      refine lv_ldc2 (v := 3) hx hb hown (hts _ kw_935) dX11_known_18 ?_
      refine gm_ci (va_runS (As := [.long v4.toInt64, .long 0, .long 3]) (rest := []) ⟨hx, hb, hml, hown, hts⟩ (m_X11_isWithin l D cy tq _ Y _ _ _ _ _) (va_cwS 3 hts (good_S kw_460 kw_461 kw_1 kw_462) rfl rfl rfl (by decide +kernel) ⟨Nat.le_of_ble_eq_true rfl, Nat.le_of_ble_eq_true rfl⟩) (gm_preS hK hW hC hS hA hf) rfl rfl hl.1 rfl (lv_room (Nat.le_of_ble_eq_true rfl)) dX11_known_21 ⟨Nat.le_of_ble_eq_true rfl, Nat.le_of_ble_eq_true rfl⟩) hW hS hA (fun r44 M43 H locs hW hS hf => ?_)
      refine lv_if_eq (tgt := 31) hx hb dX11_known_24 (by decide) (fun c45 => ?_) (fun c45 => ?_)
      · replace hf := hf.1 c45
        exact j31 _ _ _ _ (lv_sub hl [0, 1, 2, 3] rfl) hW hS hf
      · replace hf := hf.2 c45
        refine lv_iconst (v := 1) hx hb dX11_known_27 (by decide +kernel) ?_
        refine lv_goto (tgt := 32) hx hb dX11_known_28 (by decide) ?_
        exact j32 _ _ _ _ _ (lv_sub hl [0, 1, 2, 3] rfl) hW hS hf

abbrev rm_X11_log : Room := { frames := 8, cells := 2, slots := 12, locals := 173 }
def f_X11_log_25 (Y : Ly) (v0 : Nat) (v1 : Int32) (v2 : Int32) (Kn : Int64 → Mm → Prop) (Xn : String → Mm → Prop) (y4 : Int32) (M5 : Mm) : Prop :=
  f_X11_needArguments Y y4 M5 (fun M6 => (f_X11_needPower Y v0 M6 (fun M7 => (∃ b8 : Nat, mR M7 v0 10 = some b8 ∧ (yK Y b8 = 9 ∧ (∃ b10 : Nat, mR M7 b8 1 = some b10 ∧ (yK Y b10 = 104 ∧ (vp_in v1 (yN Y b10) ∧ (∃ b13 : Nat, mR M7 b10 v1.toNatClampNeg = some b13 ∧ (((v2 < 0 ∨ 5 ≤ v2) → (yK Y b13 = 8 ∧ (f_X8_countBytes Y b13 M7 (fun r15 M14 => (Kn r15 M14))))) ∧ (v2 = 0 → (yK Y b13 = 8 ∧ (Kn (mJ M7 b13 1) M7))) ∧ (v2 = 1 → (yK Y b13 = 8 ∧ (Kn (mJ M7 b13 2) M7))) ∧ (v2 = 2 → (yK Y b13 = 8 ∧ (Kn ((mI M7 b13 3).toInt64) M7))) ∧ (v2 = 3 → (yK Y b13 = 8 ∧ (Kn ((mI M7 b13 7).toInt64) M7))) ∧ (v2 = 4 → (∃ b22 : Nat, mR M7 v0 10 = some b22 ∧ (yK Y b22 = 9 ∧ (f_X9_countRecords Y b22 b13 M7 (fun r24 M23 => (Kn r24 M23)))))))))))))) Xn)) Xn
def f_X11_log_24 (Y : Ly) (v0 : Nat) (v1 : Int32) (v2 : Int32) (Kn : Int64 → Mm → Prop) (Xn : String → Mm → Prop) (M26 : Mm) : Prop :=
  f_X11_log_25 Y v0 v1 v2 Kn Xn 0 M26
def f_X11_log (Y : Ly) (v0 : Nat) (v1 : Int32) (v2 : Int32) (M : Mm) (Kn : Int64 → Mm → Prop) (Xn : String → Mm → Prop) : Prop :=
  yK Y v0 = 11 ∧ (f_X11_isLog Y v0 v1 M (fun r2 M1 => ((r2 = 0 → (f_X11_log_24 Y v0 v1 v2 Kn Xn M1)) ∧ (¬ (r2 = 0) → (f_X11_isWithin Y v2.toInt64 0 5 M1 (fun r29 M28 => ((r29 = 0 → (f_X11_log_24 Y v0 v1 v2 Kn Xn M28)) ∧ (¬ (r29 = 0) → (f_X11_log_25 Y v0 v1 v2 Kn Xn 1 M28)))))))))
set_option maxHeartbeats 4000000 in
set_option maxRecDepth 100000 in
theorem m_X11_log (l : Launch) (hlt : l.stackTraces = false) (D : va_G) (cy : Cy) (tq sz : Nat) (Y : Ly) (v0 : Nat) (v1 : Int32) (v2 : Int32) (M : Mm) (Kn : Int64 → Mm → Prop) (Xn : String → Mm → Prop) : vx_Met l yX11_log (Cond.code yX11_log cX11_log 4 (some .long) :: TT) rm_X11_log (PcG D cy tq [.ref v0, .int v1, .int v2] sz Y M (f_X11_log Y v0 v1 v2 M Kn Xn)) (va_Ql Kn (BG D cy (Am Y sz) Y) (Am Y sz)) (XX D cy (Am Y sz) Y Xn) 2 12 (Am Y sz) := by
  refine vx_ofW (cc := cX11_log) (maxL := 4) (ret := (some .long)) (by decide) rfl ?_
  intro p e s m args below meth c s₁ B hml hno hv
  obtain ⟨hargs, hsz, hW, hK, hC, hf⟩ := hv
  subst hsz
  have hx := B.exec
  have hb := B.bytes
  have hr := B.returns
  have hts : ∀ w ∈ TT, w.before args s = true := fun w h => atoms_spec (ws := Cond.code yX11_log cX11_log 4 (some .long) :: TT) B.pre w (List.mem_cons_of_mem _ h)
  have hown : s.vm.findClass RX11 = some m.cls := findClass_of_methodNamed B.named
  have hlocks := B.notSynchronized
  replace hW := Wd_self (sz := s.heap.size) hW
  generalize hAe : Am Y s.heap.size = A at hW hC ⊢
  have hA : ∀ q : Nat, s.heap.size ≤ q → A q := fun q h => by rw [← hAe]; exact Or.inr h
  clear hAe
  have hS : va_S A s.heap s.heap [] := va_S.rf
  obtain ⟨ls, hE, hl⟩ := gm_entry m [.ref v0, .int v1, .int v2] (n := 4) hargs (Nat.le_of_ble_eq_true rfl)
  rw [hE]
  have hl : lv_has ls 4 [(0, .ref v0), (1, .int v1), (2, .int v2)] := hl
  show W p l e rm_X11_log s m args below meth c s.heap [] 0 0 (vx_MQ below (va_Ql Kn (BG D cy A Y) A) (XX D cy A Y Xn) args s 2 12 A) (F0 m 0 ls [])
  unfold f_X11_log at hf
  refine lv_aload_n hx hb dX11_log_0 rfl (lv_at hl 0 rfl) ?_
  refine lv_iload_n hx hb dX11_log_1 rfl (lv_at hl 1 rfl) ?_
  obtain ⟨k3, hf⟩ := hf
  refine gm_ci (va_runV (As := [.int v1]) (rest := []) ⟨hx, hb, hml, hown, hts⟩ (m_X11_isLog l D cy tq _ Y _ _ _ _) (cwV 1 hts (good_V kw_932 kw_933 kw_1801 kw_1 kw_934) rfl rfl rfl (by decide +kernel) ⟨Nat.le_of_ble_eq_true rfl, Nat.le_of_ble_eq_true rfl⟩) (gm_preV hK hW hC hS hA k3 (by decide) (q := (RX11, TX11, 13)) rfl rfl hf) rfl rfl hl.1 rfl (lv_room (Nat.le_of_ble_eq_true rfl)) dX11_log_2 ⟨Nat.le_of_ble_eq_true rfl, Nat.le_of_ble_eq_true rfl⟩) hW hS hA (fun r2 M1 H locs hW hS hf => ?_)
  have j25 : ∀ (y4 : Int32) (M5 : Mm) (H : Heap) (locs : List Loc) (ls : Array Slot), lv_has ls 4 [(0, .ref v0), (1, .int v1), (2, .int v2)] → Wd D cy A Y M5 H → va_S A s.heap H locs → f_X11_log_25 Y v0 v1 v2 Kn Xn y4 M5 → W p l e rm_X11_log s m args below meth c H locs 0 0 (vx_MQ below (va_Ql Kn (BG D cy A Y) A) (XX D cy A Y Xn) args s 2 12 A) (F0 m 25 ls [.int y4]) := by
    intro y4 M5 H locs ls hl hW hS hf
    unfold f_X11_log_25 at hf
    refine gx_cv (vx_runS (As := [.int y4]) (rest := []) ⟨hx, hb, hml, hown, hts⟩ (m_X11_needArguments l hlt D cy tq _ Y _ _ _ _) (va_cwS 1 hts (good_S kw_463 kw_464 kw_1 kw_465) rfl rfl rfl (by decide +kernel) ⟨Nat.le_of_ble_eq_true rfl, Nat.le_of_ble_eq_true rfl⟩) (gm_preS hK hW hC hS hA hf) rfl rfl hl.1 rfl (lv_room (Nat.le_of_ble_eq_true rfl)) dX11_log_25 ⟨Nat.le_of_ble_eq_true rfl, Nat.le_of_ble_eq_true rfl⟩) hW hS hA (fun E M9 H locs ce q9 hW hS hf h1 h2 h3 => gx_out hno hlocks hW hS hf h1 h2 h3 (Nat.le_of_ble_eq_true rfl) (Nat.le_of_ble_eq_true rfl)) (fun M6 H locs hW hS hf => ?_)
    refine lv_aload_n hx hb dX11_log_28 rfl (lv_at hl 0 rfl) ?_
    refine gx_cv (vx_runV (As := []) (rest := []) ⟨hx, hb, hml, hown, hts⟩ (m_X11_needPower l hlt D cy tq _ Y _ _ _ _) (cwV 0 hts (good_V kw_842 kw_843 kw_1794 kw_1 kw_844) rfl rfl rfl (by decide +kernel) ⟨Nat.le_of_ble_eq_true rfl, Nat.le_of_ble_eq_true rfl⟩) (gm_preV hK hW hC hS hA k3 (by decide) (q := (RX11, TX11, 13)) rfl rfl hf) rfl rfl hl.1 rfl (lv_room (Nat.le_of_ble_eq_true rfl)) dX11_log_29 ⟨Nat.le_of_ble_eq_true rfl, Nat.le_of_ble_eq_true rfl⟩) hW hS hA (fun E M9 H locs ce q9 hW hS hf h1 h2 h3 => gx_out hno hlocks hW hS hf h1 h2 h3 (Nat.le_of_ble_eq_true rfl) (Nat.le_of_ble_eq_true rfl)) (fun M7 H locs hW hS hf => ?_)
    refine lv_aload_n hx hb dX11_log_32 rfl (lv_at hl 0 rfl) ?_
    obtain ⟨b8, hb8, hf⟩ := hf
    refine gm_getR (C := RX11) (T := TX11) (N := 13) (j := 10) hx hb hts inT_11 hown hK hW k3 (by decide) rfl (by decide) rfl (hts _ kw_304) rfl dX11_log_33 hb8 ?_
    obtain ⟨k9, hf⟩ := hf
    obtain ⟨b10, hb10, hf⟩ := hf
    refine gm_getR (C := RX9) (T := TX9) (N := 7) (j := 1) hx hb hts inT_9 hown hK hW k9 (by decide) rfl (by decide) rfl (hts _ kw_218) rfl dX11_log_36 hb10 ?_
    refine lv_iload_n hx hb dX11_log_39 rfl (lv_at hl 1 rfl) ?_
    obtain ⟨k11, hf⟩ := hf
    obtain ⟨h12, hf⟩ := hf
    obtain ⟨b13, hb13, hf⟩ := hf
    refine gm_aald hx hb hK hW k11 h12 hb13 dX11_log_40 ?_
    refine lv_astore_n (lv' := [(3, .ref b13), (0, .ref v0), (1, .int v1), (2, .int v2)]) hx hb dX11_log_41 rfl hl (by decide) rfl (fun ls hl => ?_)
    refine lv_iload_n hx hb dX11_log_42 rfl (lv_at hl 3 rfl) ?_
    rcases sw_split v2 5 (by decide) with c17 | ⟨kc17, hkc17, ec17⟩
    · replace hf := hf.1 c17
      refine lv_tableOut (tgt := 107) hx hb dX11_log_43 (sw_int 5 (by decide) (by decide) c17) (by decide) ?_
      refine lv_aload_n hx hb dX11_log_107 rfl (lv_at hl 0 rfl) ?_
      obtain ⟨k16, hf⟩ := hf
      refine gm_cl (va_runV (As := []) (rest := []) ⟨hx, hb, hml, hown, hts⟩ (m_X8_countBytes l D cy tq _ Y _ _ _) (cwV 0 hts (good_V kw_956 kw_957 kw_958 kw_9 kw_959) rfl rfl rfl (by decide +kernel) ⟨Nat.le_of_ble_eq_true rfl, Nat.le_of_ble_eq_true rfl⟩) (gm_preV hK hW hC hS hA k16 (by decide) (q := (RX8, TX8, 9)) rfl rfl hf) rfl rfl hl.1 rfl (lv_room (Nat.le_of_ble_eq_true rfl)) dX11_log_108 ⟨Nat.le_of_ble_eq_true rfl, Nat.le_of_ble_eq_true rfl⟩) hW hS hA (fun r15 M14 H locs hW hS hf => ?_)
      exact vx_ret (gm_lret hx hb hr hlocks hW hS hf dX11_log_111)
    · rcases (show kc17 = 0 ∨ kc17 = 1 ∨ kc17 = 2 ∨ kc17 = 3 ∨ kc17 = 4 by omega) with rfl | rfl | rfl | rfl | rfl
      · replace hf := hf.2.1 ec17
        refine lv_tableIn (off := 33) (tgt := 76) hx hb dX11_log_43 (by rw [ec17]; decide) (by rw [ec17]; decide) (by rw [ec17]; rfl) (by decide) ?_
        refine lv_aload_n hx hb dX11_log_76 rfl (lv_at hl 0 rfl) ?_
        obtain ⟨k18, hf⟩ := hf
        refine gm_getJ (C := RX8) (T := TX8) (N := 9) (j := 1) hx hb hts inT_8 hown hK hW k18 (by decide) rfl (by decide) rfl (hts _ kw_173) rfl dX11_log_77 ?_
        exact vx_ret (gm_lret hx hb hr hlocks hW hS hf dX11_log_80)
      · replace hf := hf.2.2.1 ec17
        refine lv_tableIn (off := 38) (tgt := 81) hx hb dX11_log_43 (by rw [ec17]; decide) (by rw [ec17]; decide) (by rw [ec17]; rfl) (by decide) ?_
        refine lv_aload_n hx hb dX11_log_81 rfl (lv_at hl 0 rfl) ?_
        obtain ⟨k19, hf⟩ := hf
        refine gm_getJ (C := RX8) (T := TX8) (N := 9) (j := 2) hx hb hts inT_8 hown hK hW k19 (by decide) rfl (by decide) rfl (hts _ kw_177) rfl dX11_log_82 ?_
        exact vx_ret (gm_lret hx hb hr hlocks hW hS hf dX11_log_85)
      · replace hf := hf.2.2.2.1 ec17
        refine lv_tableIn (off := 43) (tgt := 86) hx hb dX11_log_43 (by rw [ec17]; decide) (by rw [ec17]; decide) (by rw [ec17]; rfl) (by decide) ?_
        refine lv_aload_n hx hb dX11_log_86 rfl (lv_at hl 0 rfl) ?_
        obtain ⟨k20, hf⟩ := hf
        refine gm_getI (C := RX8) (T := TX8) (N := 9) (j := 3) hx hb hts inT_8 hown hK hW k20 (by decide) rfl (by decide) rfl (hts _ kw_181) rfl dX11_log_87 ?_
        refine lv_i2l hx hb dX11_log_90 rfl ?_
        exact vx_ret (gm_lret hx hb hr hlocks hW hS hf dX11_log_91)
      · replace hf := hf.2.2.2.2.1 ec17
        refine lv_tableIn (off := 49) (tgt := 92) hx hb dX11_log_43 (by rw [ec17]; decide) (by rw [ec17]; decide) (by rw [ec17]; rfl) (by decide) ?_
        refine lv_aload_n hx hb dX11_log_92 rfl (lv_at hl 0 rfl) ?_
        obtain ⟨k21, hf⟩ := hf
        refine gm_getI (C := RX8) (T := TX8) (N := 9) (j := 7) hx hb hts inT_8 hown hK hW k21 (by decide) rfl (by decide) rfl (hts _ kw_193) rfl dX11_log_93 ?_
        refine lv_i2l hx hb dX11_log_96 rfl ?_
        exact vx_ret (gm_lret hx hb hr hlocks hW hS hf dX11_log_97)
      · replace hf := hf.2.2.2.2.2 ec17
        refine lv_tableIn (off := 55) (tgt := 98) hx hb dX11_log_43 (by rw [ec17]; decide) (by rw [ec17]; decide) (by rw [ec17]; rfl) (by decide) ?_
        refine lv_aload_n hx hb dX11_log_98 rfl (lv_at hl 1 rfl) ?_
        obtain ⟨b22, hb22, hf⟩ := hf
        refine gm_getR (C := RX11) (T := TX11) (N := 13) (j := 10) hx hb hts inT_11 hown hK hW k3 (by decide) rfl (by decide) rfl (hts _ kw_304) rfl dX11_log_99 hb22 ?_
        refine lv_aload_n hx hb dX11_log_102 rfl (lv_at hl 0 rfl) ?_
        obtain ⟨k25, hf⟩ := hf
        refine gm_cl (va_runV (As := [.ref b13]) (rest := []) ⟨hx, hb, hml, hown, hts⟩ (m_X9_countRecords l D cy tq _ Y _ _ _ _) (cwV 1 hts (good_V kw_952 kw_953 kw_954 kw_8 kw_955) rfl rfl rfl (by decide +kernel) ⟨Nat.le_of_ble_eq_true rfl, Nat.le_of_ble_eq_true rfl⟩) (gm_preV hK hW hC hS hA k25 (by decide) (q := (RX9, TX9, 7)) rfl rfl hf) rfl rfl hl.1 rfl (lv_room (Nat.le_of_ble_eq_true rfl)) dX11_log_103 ⟨Nat.le_of_ble_eq_true rfl, Nat.le_of_ble_eq_true rfl⟩) hW hS hA (fun r24 M23 H locs hW hS hf => ?_)
        exact vx_ret (gm_lret hx hb hr hlocks hW hS hf dX11_log_106)
  have j24 : ∀ (M26 : Mm) (H : Heap) (locs : List Loc) (ls : Array Slot), lv_has ls 4 [(0, .ref v0), (1, .int v1), (2, .int v2)] → Wd D cy A Y M26 H → va_S A s.heap H locs → f_X11_log_24 Y v0 v1 v2 Kn Xn M26 → W p l e rm_X11_log s m args below meth c H locs 0 0 (vx_MQ below (va_Ql Kn (BG D cy A Y) A) (XX D cy A Y Xn) args s 2 12 A) (F0 m 24 ls []) := by
    intro M26 H locs ls hl hW hS hf
    unfold f_X11_log_24 at hf
    refine lv_iconst (v := 0) hx hb dX11_log_24 (by decide +kernel) ?_
    exact j25 _ _ _ _ _ (lv_sub hl [0, 1, 2] rfl) hW hS hf
  refine lv_if_eq (tgt := 24) hx hb dX11_log_5 (by decide) (fun c27 => ?_) (fun c27 => ?_)
  · replace hf := hf.1 c27
    exact j24 _ _ _ _ (lv_sub hl [0, 1, 2] rfl) hW hS hf
  · replace hf := hf.2 c27
    refine lv_iload_n hx hb dX11_log_8 rfl (lv_at hl 2 rfl) ?_
    refine lv_i2l hx hb dX11_log_9 rfl ?_
    refine lv_lconst (v := 0) hx hb dX11_log_10 (by decide) ?_
    refine lv_ldc2 (v := 5) hx hb hown (hts _ kw_951) dX11_log_11 ?_
    refine gm_ci (va_runS (As := [.long v2.toInt64, .long 0, .long 5]) (rest := []) ⟨hx, hb, hml, hown, hts⟩ (m_X11_isWithin l D cy tq _ Y _ _ _ _ _) (va_cwS 3 hts (good_S kw_460 kw_461 kw_1 kw_462) rfl rfl rfl (by decide +kernel) ⟨Nat.le_of_ble_eq_true rfl, Nat.le_of_ble_eq_true rfl⟩) (gm_preS hK hW hC hS hA hf) rfl rfl hl.1 rfl (lv_room (Nat.le_of_ble_eq_true rfl)) dX11_log_14 ⟨Nat.le_of_ble_eq_true rfl, Nat.le_of_ble_eq_true rfl⟩) hW hS hA (fun r29 M28 H locs hW hS hf => ?_)
    refine lv_if_eq (tgt := 24) hx hb dX11_log_17 (by decide) (fun c30 => ?_) (fun c30 => ?_)
    · replace hf := hf.1 c30
      exact j24 _ _ _ _ (lv_sub hl [0, 1, 2] rfl) hW hS hf
    · replace hf := hf.2 c30
      refine lv_iconst (v := 1) hx hb dX11_log_20 (by decide +kernel) ?_
      refine lv_goto (tgt := 25) hx hb dX11_log_21 (by decide) ?_
      exact j25 _ _ _ _ _ (lv_sub hl [0, 1, 2] rfl) hW hS hf

abbrev rm_X11_fetch : Room := { frames := 8, cells := 2, slots := 12, locals := 233 }
def f_X11_fetch_143 (Y : Ly) (v0 : Nat) (Kn : Int32 → Mm → Prop) (M27 : Mm) : Prop :=
  ∃ b28 : Nat, mR M27 v0 5 = some b28 ∧ (yK Y b28 = 6 ∧ (Kn (mI M27 b28 1) M27))
def L_X11_fetch_75 (Y : Ly) (v0 : Nat) (v4 : Int32) (Kn : Int32 → Mm → Prop) (b13 : Nat) (x25 : Int32) (M26 : Mm) (again75 : Int32 → Mm → Prop) : Prop :=
  ((mI M26 b13 7) ≤ x25 → (f_X11_fetch_143 Y v0 Kn M26)) ∧ (¬ ((mI M26 b13 7) ≤ x25) → (∃ b31 : Nat, mR M26 v0 5 = some b31 ∧ (∃ b32 : Nat, mR M26 v0 6 = some b32 ∧ (yK Y b32 = 3 ∧ (∃ b34 : Nat, mR M26 b32 0 = some b34 ∧ (∃ b35 : Nat, mR M26 b13 8 = some b35 ∧ (yK Y b35 = 101 ∧ (vp_in x25 (yN Y b35) ∧ (f_X0_sizeOf Y b34 (mI M26 b35 x25.toNatClampNeg) M26 (fun r39 M38 => (yK Y b31 = 6 ∧ (f_X6_accepts Y b31 r39 v4 M38 (fun r41 M40 => ((r41 = 0 → (f_X11_fetch_143 Y v0 Kn M40)) ∧ (¬ (r41 = 0) → (∃ b44 : Nat, mR M40 v0 5 = some b44 ∧ (∃ b45 : Nat, mR M40 v0 6 = some b45 ∧ (yK Y b45 = 3 ∧ (∃ b47 : Nat, mR M40 b45 0 = some b47 ∧ (∃ b48 : Nat, mR M40 b13 8 = some b48 ∧ (yK Y b48 = 101 ∧ (vp_in x25 (yN Y b48) ∧ (yK Y b44 = 6 ∧ (f_X6_add Y b44 b47 (mI M40 b48 x25.toNatClampNeg) M40 (fun M51 => (∀ x53 : Int32, x53 = x25 + 1 → (again75 x53 M51)))))))))))))))))))))))))))
def f_X11_fetch_26 (Y : Ly) (v0 : Nat) (v1 : Int32) (v2 : Int64) (v4 : Int32) (Kn : Int32 → Mm → Prop) (Xn : String → Mm → Prop) (y3 : Int32) (M4 : Mm) : Prop :=
  f_X11_needArguments Y y3 M4 (fun M5 => (yK Y v0 = 11 ∧ (f_X11_needPower Y v0 M5 (fun M6 => (∃ b8 : Nat, mR M6 v0 10 = some b8 ∧ (yK Y b8 = 9 ∧ (∃ b10 : Nat, mR M6 b8 1 = some b10 ∧ (yK Y b10 = 104 ∧ (vp_in v1 (yN Y b10) ∧ (∃ b13 : Nat, mR M6 b10 v1.toNatClampNeg = some b13 ∧ (yK Y b13 = 8 ∧ (f_X8_holds Y b13 v2 M6 (fun r15 M14 => ((¬ r15 = 0 → (∃ b18 : Nat, mR M14 v0 5 = some b18 ∧ (yK Y b18 = 6 ∧ (f_X6_clear Y b18 M14 (fun M19 => (∃ b21 : Nat, mR M19 v0 10 = some b21 ∧ (yK Y b21 = 9 ∧ (f_X9_firstReaching Y b21 b13 v2 M19 (fun r23 M22 => (∃ n, LOOP2 (L_X11_fetch_75 Y v0 v4 Kn b13) n r23 M22)))))))))) ∧ (r15 = 0 → (Kn (-12) M14))))))))))))) Xn))) Xn
def f_X11_fetch_25 (Y : Ly) (v0 : Nat) (v1 : Int32) (v2 : Int64) (v4 : Int32) (Kn : Int32 → Mm → Prop) (Xn : String → Mm → Prop) (M54 : Mm) : Prop :=
  f_X11_fetch_26 Y v0 v1 v2 v4 Kn Xn 0 M54
def f_X11_fetch (Y : Ly) (v0 : Nat) (v1 : Int32) (v2 : Int64) (v4 : Int32) (M : Mm) (Kn : Int32 → Mm → Prop) (Xn : String → Mm → Prop) : Prop :=
  f_X11_isWithin Y v4.toInt64 0 32768 M (fun r2 M1 => ((r2 = 0 → (f_X11_fetch_25 Y v0 v1 v2 v4 Kn Xn M1)) ∧ (¬ (r2 = 0) → (yK Y v0 = 11 ∧ (f_X11_isLog Y v0 v1 M1 (fun r57 M56 => ((r57 = 0 → (f_X11_fetch_25 Y v0 v1 v2 v4 Kn Xn M56)) ∧ (¬ (r57 = 0) → (f_X11_fetch_26 Y v0 v1 v2 v4 Kn Xn 1 M56)))))))))
set_option maxHeartbeats 4000000 in
set_option maxRecDepth 100000 in
theorem m_X11_fetch (l : Launch) (hlt : l.stackTraces = false) (D : va_G) (cy : Cy) (tq sz : Nat) (Y : Ly) (v0 : Nat) (v1 : Int32) (v2 : Int64) (v4 : Int32) (M : Mm) (Kn : Int32 → Mm → Prop) (Xn : String → Mm → Prop) : vx_Met l yX11_fetch (Cond.code yX11_fetch cX11_fetch 7 (some .int) :: TT) rm_X11_fetch (PcG D cy tq [.ref v0, .int v1, .long v2, .int v4] sz Y M (f_X11_fetch Y v0 v1 v2 v4 M Kn Xn)) (va_Qi Kn (BG D cy (Am Y sz) Y) (Am Y sz)) (XX D cy (Am Y sz) Y Xn) 2 12 (Am Y sz) := by
  refine vx_ofW (cc := cX11_fetch) (maxL := 7) (ret := (some .int)) (by decide) rfl ?_
  intro p e s m args below meth c s₁ B hml hno hv
  obtain ⟨hargs, hsz, hW, hK, hC, hf⟩ := hv
  subst hsz
  have hx := B.exec
  have hb := B.bytes
  have hr := B.returns
  have hts : ∀ w ∈ TT, w.before args s = true := fun w h => atoms_spec (ws := Cond.code yX11_fetch cX11_fetch 7 (some .int) :: TT) B.pre w (List.mem_cons_of_mem _ h)
  have hown : s.vm.findClass RX11 = some m.cls := findClass_of_methodNamed B.named
  have hlocks := B.notSynchronized
  replace hW := Wd_self (sz := s.heap.size) hW
  generalize hAe : Am Y s.heap.size = A at hW hC ⊢
  have hA : ∀ q : Nat, s.heap.size ≤ q → A q := fun q h => by rw [← hAe]; exact Or.inr h
  clear hAe
  have hS : va_S A s.heap s.heap [] := va_S.rf
  obtain ⟨ls, hE, hl⟩ := gm_entry m [.ref v0, .int v1, .long v2, .int v4] (n := 7) hargs (Nat.le_of_ble_eq_true rfl)
  rw [hE]
  have hl : lv_has ls 7 [(0, .ref v0), (1, .int v1), (2, .long v2), (4, .int v4)] := hl
  show W p l e rm_X11_fetch s m args below meth c s.heap [] 0 0 (vx_MQ below (va_Qi Kn (BG D cy A Y) A) (XX D cy A Y Xn) args s 2 12 A) (F0 m 0 ls [])
  unfold f_X11_fetch at hf
  refine lv_iload hx hb dX11_fetch_0 (lv_at hl 3 rfl) ?_
  refine lv_i2l hx hb dX11_fetch_2 rfl ?_
  refine lv_lconst (v := 0) hx hb dX11_fetch_3 (by decide) ?_
  refine lv_ldc2 (v := 32768) hx hb hown (hts _ kw_967) dX11_fetch_4 ?_
  refine gm_ci (va_runS (As := [.long v4.toInt64, .long 0, .long 32768]) (rest := []) ⟨hx, hb, hml, hown, hts⟩ (m_X11_isWithin l D cy tq _ Y _ _ _ _ _) (va_cwS 3 hts (good_S kw_460 kw_461 kw_1 kw_462) rfl rfl rfl (by decide +kernel) ⟨Nat.le_of_ble_eq_true rfl, Nat.le_of_ble_eq_true rfl⟩) (gm_preS hK hW hC hS hA hf) rfl rfl hl.1 rfl (lv_room (Nat.le_of_ble_eq_true rfl)) dX11_fetch_7 ⟨Nat.le_of_ble_eq_true rfl, Nat.le_of_ble_eq_true rfl⟩) hW hS hA (fun r2 M1 H locs hW hS hf => ?_)
  have j26 : ∀ (y3 : Int32) (M4 : Mm) (H : Heap) (locs : List Loc) (ls : Array Slot), lv_has ls 7 [(0, .ref v0), (1, .int v1), (2, .long v2), (4, .int v4)] → Wd D cy A Y M4 H → va_S A s.heap H locs → f_X11_fetch_26 Y v0 v1 v2 v4 Kn Xn y3 M4 → W p l e rm_X11_fetch s m args below meth c H locs 0 0 (vx_MQ below (va_Qi Kn (BG D cy A Y) A) (XX D cy A Y Xn) args s 2 12 A) (F0 m 26 ls [.int y3]) := by
    intro y3 M4 H locs ls hl hW hS hf
    unfold f_X11_fetch_26 at hf
    refine gx_cv (vx_runS (As := [.int y3]) (rest := []) ⟨hx, hb, hml, hown, hts⟩ (m_X11_needArguments l hlt D cy tq _ Y _ _ _ _) (va_cwS 1 hts (good_S kw_463 kw_464 kw_1 kw_465) rfl rfl rfl (by decide +kernel) ⟨Nat.le_of_ble_eq_true rfl, Nat.le_of_ble_eq_true rfl⟩) (gm_preS hK hW hC hS hA hf) rfl rfl hl.1 rfl (lv_room (Nat.le_of_ble_eq_true rfl)) dX11_fetch_26 ⟨Nat.le_of_ble_eq_true rfl, Nat.le_of_ble_eq_true rfl⟩) hW hS hA (fun E M9 H locs ce q9 hW hS hf h1 h2 h3 => gx_out hno hlocks hW hS hf h1 h2 h3 (Nat.le_of_ble_eq_true rfl) (Nat.le_of_ble_eq_true rfl)) (fun M5 H locs hW hS hf => ?_)
    refine lv_aload_n hx hb dX11_fetch_29 rfl (lv_at hl 0 rfl) ?_
    obtain ⟨k7, hf⟩ := hf
    refine gx_cv (vx_runV (As := []) (rest := []) ⟨hx, hb, hml, hown, hts⟩ (m_X11_needPower l hlt D cy tq _ Y _ _ _ _) (cwV 0 hts (good_V kw_842 kw_843 kw_1794 kw_1 kw_844) rfl rfl rfl (by decide +kernel) ⟨Nat.le_of_ble_eq_true rfl, Nat.le_of_ble_eq_true rfl⟩) (gm_preV hK hW hC hS hA k7 (by decide) (q := (RX11, TX11, 13)) rfl rfl hf) rfl rfl hl.1 rfl (lv_room (Nat.le_of_ble_eq_true rfl)) dX11_fetch_30 ⟨Nat.le_of_ble_eq_true rfl, Nat.le_of_ble_eq_true rfl⟩) hW hS hA (fun E M9 H locs ce q9 hW hS hf h1 h2 h3 => gx_out hno hlocks hW hS hf h1 h2 h3 (Nat.le_of_ble_eq_true rfl) (Nat.le_of_ble_eq_true rfl)) (fun M6 H locs hW hS hf => ?_)
    refine lv_aload_n hx hb dX11_fetch_33 rfl (lv_at hl 0 rfl) ?_
    obtain ⟨b8, hb8, hf⟩ := hf
    refine gm_getR (C := RX11) (T := TX11) (N := 13) (j := 10) hx hb hts inT_11 hown hK hW k7 (by decide) rfl (by decide) rfl (hts _ kw_304) rfl dX11_fetch_34 hb8 ?_
    obtain ⟨k9, hf⟩ := hf
    obtain ⟨b10, hb10, hf⟩ := hf
    refine gm_getR (C := RX9) (T := TX9) (N := 7) (j := 1) hx hb hts inT_9 hown hK hW k9 (by decide) rfl (by decide) rfl (hts _ kw_218) rfl dX11_fetch_37 hb10 ?_
    refine lv_iload_n hx hb dX11_fetch_40 rfl (lv_at hl 1 rfl) ?_
    obtain ⟨k11, hf⟩ := hf
    obtain ⟨h12, hf⟩ := hf
    obtain ⟨b13, hb13, hf⟩ := hf
    refine gm_aald hx hb hK hW k11 h12 hb13 dX11_fetch_41 ?_
    refine lv_astore (lv' := [(5, .ref b13), (0, .ref v0), (1, .int v1), (2, .long v2), (4, .int v4)]) hx hb dX11_fetch_42 hl (by decide) rfl (fun ls hl => ?_)
    refine lv_aload hx hb dX11_fetch_44 (lv_at hl 0 rfl) ?_
    refine lv_lload_n hx hb dX11_fetch_46 rfl (lv_at hl 3 rfl) ?_
    obtain ⟨k16, hf⟩ := hf
    refine gm_ci (va_runV (As := [.long v2]) (rest := []) ⟨hx, hb, hml, hown, hts⟩ (m_X8_holds l D cy tq _ Y _ _ _ _) (cwV 1 hts (good_V kw_968 kw_969 kw_970 kw_9 kw_971) rfl rfl rfl (by decide +kernel) ⟨Nat.le_of_ble_eq_true rfl, Nat.le_of_ble_eq_true rfl⟩) (gm_preV hK hW hC hS hA k16 (by decide) (q := (RX8, TX8, 9)) rfl rfl hf) rfl rfl hl.1 rfl (lv_room (Nat.le_of_ble_eq_true rfl)) dX11_fetch_47 ⟨Nat.le_of_ble_eq_true rfl, Nat.le_of_ble_eq_true rfl⟩) hW hS hA (fun r15 M14 H locs hW hS hf => ?_)
    refine lv_if_ne (tgt := 56) hx hb dX11_fetch_50 (by decide) (fun c17 => ?_) (fun c17 => ?_)
    · replace hf := hf.1 c17
      refine lv_aload_n hx hb dX11_fetch_56 rfl (lv_at hl 1 rfl) ?_
      obtain ⟨b18, hb18, hf⟩ := hf
      refine gm_getR (C := RX11) (T := TX11) (N := 13) (j := 5) hx hb hts inT_11 hown hK hW k7 (by decide) rfl (by decide) rfl (hts _ kw_299) rfl dX11_fetch_57 hb18 ?_
      obtain ⟨k20, hf⟩ := hf
      refine gm_cv (va_runV (As := []) (rest := []) ⟨hx, hb, hml, hown, hts⟩ (m_X6_clear l D cy tq _ Y _ _ _) (cwV 0 hts (good_V kw_972 kw_973 kw_974 kw_5 kw_975) rfl rfl rfl (by decide +kernel) ⟨Nat.le_of_ble_eq_true rfl, Nat.le_of_ble_eq_true rfl⟩) (gm_preV hK hW hC hS hA k20 (by decide) (q := (RX6, TX6, 6)) rfl rfl hf) rfl rfl hl.1 rfl (lv_room (Nat.le_of_ble_eq_true rfl)) dX11_fetch_60 ⟨Nat.le_of_ble_eq_true rfl, Nat.le_of_ble_eq_true rfl⟩) hW hS hA (fun M19 H locs hW hS hf => ?_)
      refine lv_aload_n hx hb dX11_fetch_63 rfl (lv_at hl 1 rfl) ?_
      obtain ⟨b21, hb21, hf⟩ := hf
      refine gm_getR (C := RX11) (T := TX11) (N := 13) (j := 10) hx hb hts inT_11 hown hK hW k7 (by decide) rfl (by decide) rfl (hts _ kw_304) rfl dX11_fetch_64 hb21 ?_
      refine lv_aload hx hb dX11_fetch_67 (lv_at hl 0 rfl) ?_
      refine lv_lload_n hx hb dX11_fetch_69 rfl (lv_at hl 3 rfl) ?_
      obtain ⟨k24, hf⟩ := hf
      refine gm_ci (va_runV (As := [.ref b13, .long v2]) (rest := []) ⟨hx, hb, hml, hown, hts⟩ (m_X9_firstReaching l D cy tq _ Y _ _ _ _ _) (cwV 2 hts (good_V kw_976 kw_977 kw_978 kw_8 kw_979) rfl rfl rfl (by decide +kernel) ⟨Nat.le_of_ble_eq_true rfl, Nat.le_of_ble_eq_true rfl⟩) (gm_preV hK hW hC hS hA k24 (by decide) (q := (RX9, TX9, 7)) rfl rfl hf) rfl rfl hl.1 rfl (lv_room (Nat.le_of_ble_eq_true rfl)) dX11_fetch_70 ⟨Nat.le_of_ble_eq_true rfl, Nat.le_of_ble_eq_true rfl⟩) hW hS hA (fun r23 M22 H locs hW hS hf => ?_)
      refine lv_istore (lv' := [(6, .int r23), (5, .ref b13), (0, .ref v0), (1, .int v1), (2, .long v2), (4, .int v4)]) hx hb dX11_fetch_73 hl (by decide) rfl (fun ls hl => ?_)
      obtain ⟨n75, hf⟩ := hf
      have lp75 : ∀ (n75 : Nat) (x25 : Int32) (M26 : Mm) (H : Heap) (locs : List Loc) (ls : Array Slot), lv_has ls 7 [(0, .ref v0), (4, .int v4), (5, .ref b13), (6, .int x25)] → Wd D cy A Y M26 H → va_S A s.heap H locs → LOOP2 (L_X11_fetch_75 Y v0 v4 Kn b13) n75 x25 M26 → W p l e rm_X11_fetch s m args below meth c H locs 2 12 (vx_MQ below (va_Qi Kn (BG D cy A Y) A) (XX D cy A Y Xn) args s 2 12 A) (F0 m 75 ls []) := by
        intro n75
        induction n75 with
        | zero => intro x25 M26 H locs ls hl hW hS hf; exact hf.elim
        | succ n75 ih75 =>
          intro x25 M26 H locs ls hl hW hS hf
          replace hf : L_X11_fetch_75 Y v0 v4 Kn b13 x25 M26 (LOOP2 (L_X11_fetch_75 Y v0 v4 Kn b13) n75) := hf
          unfold L_X11_fetch_75 at hf
          refine lv_iload hx hb dX11_fetch_75 (lv_at hl 3 rfl) ?_
          refine lv_aload hx hb dX11_fetch_77 (lv_at hl 2 rfl) ?_
          refine gm_getI (C := RX8) (T := TX8) (N := 9) (j := 7) hx hb hts inT_8 hown hK hW k16 (by decide) rfl (by decide) rfl (hts _ kw_193) rfl dX11_fetch_79 ?_
          have j143 : ∀ (M27 : Mm) (H : Heap) (locs : List Loc) (ls : Array Slot), lv_has ls 7 [(0, .ref v0)] → Wd D cy A Y M27 H → va_S A s.heap H locs → f_X11_fetch_143 Y v0 Kn M27 → W p l e rm_X11_fetch s m args below meth c H locs 2 12 (vx_MQ below (va_Qi Kn (BG D cy A Y) A) (XX D cy A Y Xn) args s 2 12 A) (F0 m 143 ls []) := by
            intro M27 H locs ls hl hW hS hf
            unfold f_X11_fetch_143 at hf
            refine lv_aload_n hx hb dX11_fetch_143 rfl (lv_at hl 0 rfl) ?_
            obtain ⟨b28, hb28, hf⟩ := hf
            refine gm_getR (C := RX11) (T := TX11) (N := 13) (j := 5) hx hb hts inT_11 hown hK hW k7 (by decide) rfl (by decide) rfl (hts _ kw_299) rfl dX11_fetch_144 hb28 ?_
            obtain ⟨k29, hf⟩ := hf
            refine gm_getI (C := RX6) (T := TX6) (N := 6) (j := 1) hx hb hts inT_6 hown hK hW k29 (by decide) rfl (by decide) rfl (hts _ kw_118) rfl dX11_fetch_147 ?_
            exact vx_ret (gm_iret hx hb hr hlocks hW hS hf dX11_fetch_150)
          refine lv_icmp_ge (tgt := 143) hx hb dX11_fetch_82 (by decide) (fun c30 => ?_) (fun c30 => ?_)
          · replace hf := hf.1 c30
            exact j143 _ _ _ _ (lv_sub hl [0] rfl) hW hS hf
          · replace hf := hf.2 c30
            refine lv_aload_n hx hb dX11_fetch_85 rfl (lv_at hl 0 rfl) ?_
            obtain ⟨b31, hb31, hf⟩ := hf
            refine gm_getR (C := RX11) (T := TX11) (N := 13) (j := 5) hx hb hts inT_11 hown hK hW k7 (by decide) rfl (by decide) rfl (hts _ kw_299) rfl dX11_fetch_86 hb31 ?_
            refine lv_aload_n hx hb dX11_fetch_89 rfl (lv_at hl 0 rfl) ?_
            obtain ⟨b32, hb32, hf⟩ := hf
            refine gm_getR (C := RX11) (T := TX11) (N := 13) (j := 6) hx hb hts inT_11 hown hK hW k7 (by decide) rfl (by decide) rfl (hts _ kw_300) rfl dX11_fetch_90 hb32 ?_
            obtain ⟨k33, hf⟩ := hf
            obtain ⟨b34, hb34, hf⟩ := hf
            refine gm_getR (C := RX3) (T := TX3) (N := 4) (j := 0) hx hb hts inT_3 hown hK hW k33 (by decide) rfl (by decide) rfl (hts _ kw_145) rfl dX11_fetch_93 hb34 ?_
            refine lv_aload hx hb dX11_fetch_96 (lv_at hl 2 rfl) ?_
            obtain ⟨b35, hb35, hf⟩ := hf
            refine gm_getR (C := RX8) (T := TX8) (N := 9) (j := 8) hx hb hts inT_8 hown hK hW k16 (by decide) rfl (by decide) rfl (hts _ kw_198) rfl dX11_fetch_98 hb35 ?_
            refine lv_iload hx hb dX11_fetch_101 (lv_at hl 3 rfl) ?_
            obtain ⟨k36, hf⟩ := hf
            obtain ⟨h37, hf⟩ := hf
            refine gm_iald hx hb hK hW k36 h37 dX11_fetch_103 ?_
            refine gm_ci (va_runS (As := [.ref b34, .int (mI M26 b35 x25.toNatClampNeg)]) (rest := [.ref b31]) ⟨hx, hb, hml, hown, hts⟩ (m_X0_sizeOf l D cy tq _ Y _ _ _ _) (va_cwS 2 hts (good_S kw_987 kw_355 kw_20 kw_356) rfl rfl rfl (by decide +kernel) ⟨Nat.le_of_ble_eq_true rfl, Nat.le_of_ble_eq_true rfl⟩) (gm_preS hK hW hC hS hA hf) rfl rfl hl.1 rfl (lv_room (Nat.le_of_ble_eq_true rfl)) dX11_fetch_104 ⟨Nat.le_of_ble_eq_true rfl, Nat.le_of_ble_eq_true rfl⟩) hW hS hA (fun r39 M38 H locs hW hS hf => ?_)
            refine lv_iload hx hb dX11_fetch_107 (lv_at hl 1 rfl) ?_
            obtain ⟨k42, hf⟩ := hf
            refine gm_ci (va_runV (As := [.int r39, .int v4]) (rest := []) ⟨hx, hb, hml, hown, hts⟩ (m_X6_accepts l D cy tq _ Y _ _ _ _ _) (cwV 2 hts (good_V kw_988 kw_989 kw_990 kw_5 kw_991) rfl rfl rfl (by decide +kernel) ⟨Nat.le_of_ble_eq_true rfl, Nat.le_of_ble_eq_true rfl⟩) (gm_preV hK hW hC hS hA k42 (by decide) (q := (RX6, TX6, 6)) rfl rfl hf) rfl rfl hl.1 rfl (lv_room (Nat.le_of_ble_eq_true rfl)) dX11_fetch_109 ⟨Nat.le_of_ble_eq_true rfl, Nat.le_of_ble_eq_true rfl⟩) hW hS hA (fun r41 M40 H locs hW hS hf => ?_)
            refine lv_if_eq (tgt := 143) hx hb dX11_fetch_112 (by decide) (fun c43 => ?_) (fun c43 => ?_)
            · replace hf := hf.1 c43
              exact j143 _ _ _ _ (lv_sub hl [0] rfl) hW hS hf
            · replace hf := hf.2 c43
              refine lv_aload_n hx hb dX11_fetch_115 rfl (lv_at hl 0 rfl) ?_
              obtain ⟨b44, hb44, hf⟩ := hf
              refine gm_getR (C := RX11) (T := TX11) (N := 13) (j := 5) hx hb hts inT_11 hown hK hW k7 (by decide) rfl (by decide) rfl (hts _ kw_299) rfl dX11_fetch_116 hb44 ?_
              refine lv_aload_n hx hb dX11_fetch_119 rfl (lv_at hl 0 rfl) ?_
              obtain ⟨b45, hb45, hf⟩ := hf
              refine gm_getR (C := RX11) (T := TX11) (N := 13) (j := 6) hx hb hts inT_11 hown hK hW k7 (by decide) rfl (by decide) rfl (hts _ kw_300) rfl dX11_fetch_120 hb45 ?_
              obtain ⟨k46, hf⟩ := hf
              obtain ⟨b47, hb47, hf⟩ := hf
              refine gm_getR (C := RX3) (T := TX3) (N := 4) (j := 0) hx hb hts inT_3 hown hK hW k46 (by decide) rfl (by decide) rfl (hts _ kw_145) rfl dX11_fetch_123 hb47 ?_
              refine lv_aload hx hb dX11_fetch_126 (lv_at hl 2 rfl) ?_
              obtain ⟨b48, hb48, hf⟩ := hf
              refine gm_getR (C := RX8) (T := TX8) (N := 9) (j := 8) hx hb hts inT_8 hown hK hW k16 (by decide) rfl (by decide) rfl (hts _ kw_198) rfl dX11_fetch_128 hb48 ?_
              refine lv_iload hx hb dX11_fetch_131 (lv_at hl 3 rfl) ?_
              obtain ⟨k49, hf⟩ := hf
              obtain ⟨h50, hf⟩ := hf
              refine gm_iald hx hb hK hW k49 h50 dX11_fetch_133 ?_
              obtain ⟨k52, hf⟩ := hf
              refine gm_cv (va_runV (As := [.ref b47, .int (mI M40 b48 x25.toNatClampNeg)]) (rest := []) ⟨hx, hb, hml, hown, hts⟩ (m_X6_add l D cy tq _ Y _ _ _ _ _) (cwV 2 hts (good_V kw_992 kw_993 kw_994 kw_5 kw_995) rfl rfl rfl (by decide +kernel) ⟨Nat.le_of_ble_eq_true rfl, Nat.le_of_ble_eq_true rfl⟩) (gm_preV hK hW hC hS hA k52 (by decide) (q := (RX6, TX6, 6)) rfl rfl hf) rfl rfl hl.1 rfl (lv_room (Nat.le_of_ble_eq_true rfl)) dX11_fetch_134 ⟨Nat.le_of_ble_eq_true rfl, Nat.le_of_ble_eq_true rfl⟩) hW hS hA (fun M51 H locs hW hS hf => ?_)
              obtain ⟨x53, ex53⟩ : ∃ y : Int32, y = x25 + 1 := ⟨_, rfl⟩
              replace hf := hf x53 ex53
              refine lv_iinc (v := x53) (lv' := [(6, .int x53), (0, .ref v0), (4, .int v4), (5, .ref b13)]) hx hb dX11_fetch_137 hl (k := 3) rfl (by rw [ex53]; rfl) (by decide) rfl (fun ls hl => ?_)
              refine lv_goto (tgt := 75) hx hb dX11_fetch_140 (by decide) ?_
              exact ih75 _ _ _ _ _ (lv_sub hl [1, 2, 3, 0] rfl) hW hS hf
      exact lp75 n75 _ _ _ _ _ (lv_sub hl [2, 5, 1, 0] rfl) hW hS hf
    · replace hf := hf.2 c17
      refine lv_bipush (v := -12) hx hb dX11_fetch_53 (by decide +kernel) ?_
      exact vx_ret (gm_iret hx hb hr hlocks hW hS hf dX11_fetch_55)
  have j25 : ∀ (M54 : Mm) (H : Heap) (locs : List Loc) (ls : Array Slot), lv_has ls 7 [(0, .ref v0), (1, .int v1), (2, .long v2), (4, .int v4)] → Wd D cy A Y M54 H → va_S A s.heap H locs → f_X11_fetch_25 Y v0 v1 v2 v4 Kn Xn M54 → W p l e rm_X11_fetch s m args below meth c H locs 0 0 (vx_MQ below (va_Qi Kn (BG D cy A Y) A) (XX D cy A Y Xn) args s 2 12 A) (F0 m 25 ls []) := by
    intro M54 H locs ls hl hW hS hf
    unfold f_X11_fetch_25 at hf
    refine lv_iconst (v := 0) hx hb dX11_fetch_25 (by decide +kernel) ?_
    exact j26 _ _ _ _ _ (lv_sub hl [0, 1, 2, 3] rfl) hW hS hf
  refine lv_if_eq (tgt := 25) hx hb dX11_fetch_10 (by decide) (fun c55 => ?_) (fun c55 => ?_)
  · replace hf := hf.1 c55
    exact j25 _ _ _ _ (lv_sub hl [0, 1, 2, 3] rfl) hW hS hf
  · replace hf := hf.2 c55
    refine lv_aload_n hx hb dX11_fetch_13 rfl (lv_at hl 0 rfl) ?_
    refine lv_iload_n hx hb dX11_fetch_14 rfl (lv_at hl 1 rfl) ?_
    obtain ⟨k58, hf⟩ := hf
    refine gm_ci (va_runV (As := [.int v1]) (rest := []) ⟨hx, hb, hml, hown, hts⟩ (m_X11_isLog l D cy tq _ Y _ _ _ _) (cwV 1 hts (good_V kw_932 kw_933 kw_1801 kw_1 kw_934) rfl rfl rfl (by decide +kernel) ⟨Nat.le_of_ble_eq_true rfl, Nat.le_of_ble_eq_true rfl⟩) (gm_preV hK hW hC hS hA k58 (by decide) (q := (RX11, TX11, 13)) rfl rfl hf) rfl rfl hl.1 rfl (lv_room (Nat.le_of_ble_eq_true rfl)) dX11_fetch_15 ⟨Nat.le_of_ble_eq_true rfl, Nat.le_of_ble_eq_true rfl⟩) hW hS hA (fun r57 M56 H locs hW hS hf => ?_)
    refine lv_if_eq (tgt := 25) hx hb dX11_fetch_18 (by decide) (fun c59 => ?_) (fun c59 => ?_)
    · replace hf := hf.1 c59
      exact j25 _ _ _ _ (lv_sub hl [0, 1, 2, 3] rfl) hW hS hf
    · replace hf := hf.2 c59
      refine lv_iconst (v := 1) hx hb dX11_fetch_21 (by decide +kernel) ?_
      refine lv_goto (tgt := 26) hx hb dX11_fetch_22 (by decide) ?_
      exact j26 _ _ _ _ _ (lv_sub hl [0, 1, 2, 3] rfl) hW hS hf

abbrev rm_X11_byteAt : Room := { frames := 7, cells := 1, slots := 6, locals := 110 }
def f_X11_byteAt (Y : Ly) (v0 : Nat) (v1 : Int32) (M : Mm) (Kn : Int32 → Mm → Prop) (Xn : String → Mm → Prop) : Prop :=
  yK Y v0 = 11 ∧ (∃ b2 : Nat, mR M v0 5 = some b2 ∧ (yK Y b2 = 6 ∧ (f_X11_isWithin Y v1.toInt64 0 (((mI M b2 1) - 1).toInt64) M (fun r5 M4 => (f_X11_needArguments Y r5 M4 (fun M6 => (∃ b7 : Nat, mR M6 v0 5 = some b7 ∧ (yK Y b7 = 6 ∧ (∃ b9 : Nat, mR M6 b7 0 = some b9 ∧ (yK Y b9 = 100 ∧ (vp_in v1 (yN Y b9) ∧ (Kn ((mI M6 b9 v1.toNatClampNeg) &&& 255) M6))))))) Xn)))))
set_option maxHeartbeats 4000000 in
set_option maxRecDepth 100000 in
theorem m_X11_byteAt (l : Launch) (hlt : l.stackTraces = false) (D : va_G) (cy : Cy) (tq sz : Nat) (Y : Ly) (v0 : Nat) (v1 : Int32) (M : Mm) (Kn : Int32 → Mm → Prop) (Xn : String → Mm → Prop) : vx_Met l yX11_byteAt (Cond.code yX11_byteAt cX11_byteAt 2 (some .int) :: TT) rm_X11_byteAt (PcG D cy tq [.ref v0, .int v1] sz Y M (f_X11_byteAt Y v0 v1 M Kn Xn)) (va_Qi Kn (BG D cy (Am Y sz) Y) (Am Y sz)) (XX D cy (Am Y sz) Y Xn) 1 6 (Am Y sz) := by
  refine vx_ofW (cc := cX11_byteAt) (maxL := 2) (ret := (some .int)) (by decide) rfl ?_
  intro p e s m args below meth c s₁ B hml hno hv
  obtain ⟨hargs, hsz, hW, hK, hC, hf⟩ := hv
  subst hsz
  have hx := B.exec
  have hb := B.bytes
  have hr := B.returns
  have hts : ∀ w ∈ TT, w.before args s = true := fun w h => atoms_spec (ws := Cond.code yX11_byteAt cX11_byteAt 2 (some .int) :: TT) B.pre w (List.mem_cons_of_mem _ h)
  have hown : s.vm.findClass RX11 = some m.cls := findClass_of_methodNamed B.named
  have hlocks := B.notSynchronized
  replace hW := Wd_self (sz := s.heap.size) hW
  generalize hAe : Am Y s.heap.size = A at hW hC ⊢
  have hA : ∀ q : Nat, s.heap.size ≤ q → A q := fun q h => by rw [← hAe]; exact Or.inr h
  clear hAe
  have hS : va_S A s.heap s.heap [] := va_S.rf
  obtain ⟨ls, hE, hl⟩ := gm_entry m [.ref v0, .int v1] (n := 2) hargs (Nat.le_of_ble_eq_true rfl)
  rw [hE]
  have hl : lv_has ls 2 [(0, .ref v0), (1, .int v1)] := hl
  show W p l e rm_X11_byteAt s m args below meth c s.heap [] 0 0 (vx_MQ below (va_Qi Kn (BG D cy A Y) A) (XX D cy A Y Xn) args s 1 6 A) (F0 m 0 ls [])
  unfold f_X11_byteAt at hf
  refine lv_iload_n hx hb dX11_byteAt_0 rfl (lv_at hl 1 rfl) ?_
  refine lv_i2l hx hb dX11_byteAt_1 rfl ?_
  refine lv_lconst (v := 0) hx hb dX11_byteAt_2 (by decide) ?_
  refine lv_aload_n hx hb dX11_byteAt_3 rfl (lv_at hl 0 rfl) ?_
  obtain ⟨k1, hf⟩ := hf
  obtain ⟨b2, hb2, hf⟩ := hf
  refine gm_getR (C := RX11) (T := TX11) (N := 13) (j := 5) hx hb hts inT_11 hown hK hW k1 (by decide) rfl (by decide) rfl (hts _ kw_299) rfl dX11_byteAt_4 hb2 ?_
  obtain ⟨k3, hf⟩ := hf
  refine gm_getI (C := RX6) (T := TX6) (N := 6) (j := 1) hx hb hts inT_6 hown hK hW k3 (by decide) rfl (by decide) rfl (hts _ kw_118) rfl dX11_byteAt_7 ?_
  refine lv_iconst (v := 1) hx hb dX11_byteAt_10 (by decide +kernel) ?_
  refine lv_isub hx hb dX11_byteAt_11 ?_
  refine lv_i2l hx hb dX11_byteAt_12 rfl ?_
  refine gm_ci (va_runS (As := [.long v1.toInt64, .long 0, .long (((mI M b2 1) - 1).toInt64)]) (rest := []) ⟨hx, hb, hml, hown, hts⟩ (m_X11_isWithin l D cy tq _ Y _ _ _ _ _) (va_cwS 3 hts (good_S kw_460 kw_461 kw_1 kw_462) rfl rfl rfl (by decide +kernel) ⟨Nat.le_of_ble_eq_true rfl, Nat.le_of_ble_eq_true rfl⟩) (gm_preS hK hW hC hS hA hf) rfl rfl hl.1 rfl (lv_room (Nat.le_of_ble_eq_true rfl)) dX11_byteAt_13 ⟨Nat.le_of_ble_eq_true rfl, Nat.le_of_ble_eq_true rfl⟩) hW hS hA (fun r5 M4 H locs hW hS hf => ?_)
  refine gx_cv (vx_runS (As := [.int r5]) (rest := []) ⟨hx, hb, hml, hown, hts⟩ (m_X11_needArguments l hlt D cy tq _ Y _ _ _ _) (va_cwS 1 hts (good_S kw_463 kw_464 kw_1 kw_465) rfl rfl rfl (by decide +kernel) ⟨Nat.le_of_ble_eq_true rfl, Nat.le_of_ble_eq_true rfl⟩) (gm_preS hK hW hC hS hA hf) rfl rfl hl.1 rfl (lv_room (Nat.le_of_ble_eq_true rfl)) dX11_byteAt_16 ⟨Nat.le_of_ble_eq_true rfl, Nat.le_of_ble_eq_true rfl⟩) hW hS hA (fun E M9 H locs ce q9 hW hS hf h1 h2 h3 => gx_out hno hlocks hW hS hf h1 h2 h3 (Nat.le_of_ble_eq_true rfl) (Nat.le_of_ble_eq_true rfl)) (fun M6 H locs hW hS hf => ?_)
  refine lv_aload_n hx hb dX11_byteAt_19 rfl (lv_at hl 0 rfl) ?_
  obtain ⟨b7, hb7, hf⟩ := hf
  refine gm_getR (C := RX11) (T := TX11) (N := 13) (j := 5) hx hb hts inT_11 hown hK hW k1 (by decide) rfl (by decide) rfl (hts _ kw_299) rfl dX11_byteAt_20 hb7 ?_
  obtain ⟨k8, hf⟩ := hf
  obtain ⟨b9, hb9, hf⟩ := hf
  refine gm_getR (C := RX6) (T := TX6) (N := 6) (j := 0) hx hb hts inT_6 hown hK hW k8 (by decide) rfl (by decide) rfl (hts _ kw_116) rfl dX11_byteAt_23 hb9 ?_
  refine lv_iload_n hx hb dX11_byteAt_26 rfl (lv_at hl 1 rfl) ?_
  obtain ⟨k10, hf⟩ := hf
  obtain ⟨h11, hf⟩ := hf
  refine gm_bald hx hb hK hW k10 h11 dX11_byteAt_27 ?_
  refine lv_sipush (v := 255) hx hb dX11_byteAt_28 (by decide +kernel) ?_
  refine lv_iand hx hb dX11_byteAt_31 ?_
  exact vx_ret (gm_iret hx hb hr hlocks hW hS hf dX11_byteAt_32)

abbrev rm_X11_taken : Room := { frames := 7, cells := 1, slots := 6, locals := 205 }
def f_X11_taken_32 (Y : Ly) (v0 : Nat) (v2 : Int32) (Kn : Int64 → Mm → Prop) (Xn : String → Mm → Prop) (y1 : Int32) (M2 : Mm) : Prop :=
  f_X11_needArguments Y y1 M2 (fun M3 => (yK Y v0 = 11 ∧ (∃ b5 : Nat, mR M3 v0 5 = some b5 ∧ (yK Y b5 = 6 ∧ (f_X6_tell Y b5 v2 M3 (fun r7 M6 => (Kn r7 M6))))))) Xn
def f_X11_taken_31 (Y : Ly) (v0 : Nat) (v2 : Int32) (Kn : Int64 → Mm → Prop) (Xn : String → Mm → Prop) (M9 : Mm) : Prop :=
  f_X11_taken_32 Y v0 v2 Kn Xn 0 M9
def f_X11_taken (Y : Ly) (v0 : Nat) (v1 : Int32) (v2 : Int32) (M : Mm) (Kn : Int64 → Mm → Prop) (Xn : String → Mm → Prop) : Prop :=
  (v1 < 0 → (f_X11_taken_31 Y v0 v2 Kn Xn M)) ∧ (¬ (v1 < 0) → (f_X11_isWithin Y v2.toInt64 0 5 M (fun r12 M11 => ((r12 = 0 → (f_X11_taken_31 Y v0 v2 Kn Xn M11)) ∧ (¬ (r12 = 0) → (yK Y v0 = 11 ∧ (∃ b15 : Nat, mR M11 v0 5 = some b15 ∧ (yK Y b15 = 6 ∧ (f_X6_turnTo Y b15 v1 M11 (fun r17 M16 => ((r17 = 0 → (f_X11_taken_31 Y v0 v2 Kn Xn M16)) ∧ (¬ (r17 = 0) → (f_X11_taken_32 Y v0 v2 Kn Xn 1 M16)))))))))))))
set_option maxHeartbeats 4000000 in
set_option maxRecDepth 100000 in
theorem m_X11_taken (l : Launch) (hlt : l.stackTraces = false) (D : va_G) (cy : Cy) (tq sz : Nat) (Y : Ly) (v0 : Nat) (v1 : Int32) (v2 : Int32) (M : Mm) (Kn : Int64 → Mm → Prop) (Xn : String → Mm → Prop) : vx_Met l yX11_taken (Cond.code yX11_taken cX11_taken 3 (some .long) :: TT) rm_X11_taken (PcG D cy tq [.ref v0, .int v1, .int v2] sz Y M (f_X11_taken Y v0 v1 v2 M Kn Xn)) (va_Ql Kn (BG D cy (Am Y sz) Y) (Am Y sz)) (XX D cy (Am Y sz) Y Xn) 1 6 (Am Y sz) := by
  refine vx_ofW (cc := cX11_taken) (maxL := 3) (ret := (some .long)) (by decide) rfl ?_
  intro p e s m args below meth c s₁ B hml hno hv
  obtain ⟨hargs, hsz, hW, hK, hC, hf⟩ := hv
  subst hsz
  have hx := B.exec
  have hb := B.bytes
  have hr := B.returns
  have hts : ∀ w ∈ TT, w.before args s = true := fun w h => atoms_spec (ws := Cond.code yX11_taken cX11_taken 3 (some .long) :: TT) B.pre w (List.mem_cons_of_mem _ h)
  have hown : s.vm.findClass RX11 = some m.cls := findClass_of_methodNamed B.named
  have hlocks := B.notSynchronized
  replace hW := Wd_self (sz := s.heap.size) hW
  generalize hAe : Am Y s.heap.size = A at hW hC ⊢
  have hA : ∀ q : Nat, s.heap.size ≤ q → A q := fun q h => by rw [← hAe]; exact Or.inr h
  clear hAe
  have hS : va_S A s.heap s.heap [] := va_S.rf
  obtain ⟨ls, hE, hl⟩ := gm_entry m [.ref v0, .int v1, .int v2] (n := 3) hargs (Nat.le_of_ble_eq_true rfl)
  rw [hE]
  have hl : lv_has ls 3 [(0, .ref v0), (1, .int v1), (2, .int v2)] := hl
  show W p l e rm_X11_taken s m args below meth c s.heap [] 0 0 (vx_MQ below (va_Ql Kn (BG D cy A Y) A) (XX D cy A Y Xn) args s 1 6 A) (F0 m 0 ls [])
  unfold f_X11_taken at hf
  refine lv_iload_n hx hb dX11_taken_0 rfl (lv_at hl 1 rfl) ?_
  have j32 : ∀ (y1 : Int32) (M2 : Mm) (H : Heap) (locs : List Loc) (ls : Array Slot), lv_has ls 3 [(0, .ref v0), (2, .int v2)] → Wd D cy A Y M2 H → va_S A s.heap H locs → f_X11_taken_32 Y v0 v2 Kn Xn y1 M2 → W p l e rm_X11_taken s m args below meth c H locs 0 0 (vx_MQ below (va_Ql Kn (BG D cy A Y) A) (XX D cy A Y Xn) args s 1 6 A) (F0 m 32 ls [.int y1]) := by
    intro y1 M2 H locs ls hl hW hS hf
    unfold f_X11_taken_32 at hf
    refine gx_cv (vx_runS (As := [.int y1]) (rest := []) ⟨hx, hb, hml, hown, hts⟩ (m_X11_needArguments l hlt D cy tq _ Y _ _ _ _) (va_cwS 1 hts (good_S kw_463 kw_464 kw_1 kw_465) rfl rfl rfl (by decide +kernel) ⟨Nat.le_of_ble_eq_true rfl, Nat.le_of_ble_eq_true rfl⟩) (gm_preS hK hW hC hS hA hf) rfl rfl hl.1 rfl (lv_room (Nat.le_of_ble_eq_true rfl)) dX11_taken_32 ⟨Nat.le_of_ble_eq_true rfl, Nat.le_of_ble_eq_true rfl⟩) hW hS hA (fun E M9 H locs ce q9 hW hS hf h1 h2 h3 => gx_out hno hlocks hW hS hf h1 h2 h3 (Nat.le_of_ble_eq_true rfl) (Nat.le_of_ble_eq_true rfl)) (fun M3 H locs hW hS hf => ?_)
    refine lv_aload_n hx hb dX11_taken_35 rfl (lv_at hl 0 rfl) ?_
    obtain ⟨k4, hf⟩ := hf
    obtain ⟨b5, hb5, hf⟩ := hf
    refine gm_getR (C := RX11) (T := TX11) (N := 13) (j := 5) hx hb hts inT_11 hown hK hW k4 (by decide) rfl (by decide) rfl (hts _ kw_299) rfl dX11_taken_36 hb5 ?_
    refine lv_iload_n hx hb dX11_taken_39 rfl (lv_at hl 1 rfl) ?_
    obtain ⟨k8, hf⟩ := hf
    refine gm_cl (va_runV (As := [.int v2]) (rest := []) ⟨hx, hb, hml, hown, hts⟩ (m_X6_tell l D cy tq _ Y _ _ _ _) (cwV 1 hts (good_V kw_1021 kw_1022 kw_1023 kw_5 kw_1024) rfl rfl rfl (by decide +kernel) ⟨Nat.le_of_ble_eq_true rfl, Nat.le_of_ble_eq_true rfl⟩) (gm_preV hK hW hC hS hA k8 (by decide) (q := (RX6, TX6, 6)) rfl rfl hf) rfl rfl hl.1 rfl (lv_room (Nat.le_of_ble_eq_true rfl)) dX11_taken_40 ⟨Nat.le_of_ble_eq_true rfl, Nat.le_of_ble_eq_true rfl⟩) hW hS hA (fun r7 M6 H locs hW hS hf => ?_)
    exact vx_ret (gm_lret hx hb hr hlocks hW hS hf dX11_taken_43)
  have j31 : ∀ (M9 : Mm) (H : Heap) (locs : List Loc) (ls : Array Slot), lv_has ls 3 [(0, .ref v0), (2, .int v2)] → Wd D cy A Y M9 H → va_S A s.heap H locs → f_X11_taken_31 Y v0 v2 Kn Xn M9 → W p l e rm_X11_taken s m args below meth c H locs 0 0 (vx_MQ below (va_Ql Kn (BG D cy A Y) A) (XX D cy A Y Xn) args s 1 6 A) (F0 m 31 ls []) := by
    intro M9 H locs ls hl hW hS hf
    unfold f_X11_taken_31 at hf
    refine lv_iconst (v := 0) hx hb dX11_taken_31 (by decide +kernel) ?_
    exact j32 _ _ _ _ _ (lv_sub hl [0, 1] rfl) hW hS hf
  refine lv_if_lt (tgt := 31) hx hb dX11_taken_1 (by decide) (fun c10 => ?_) (fun c10 => ?_)
  · replace hf := hf.1 c10
    exact j31 _ _ _ _ (lv_sub hl [0, 2] rfl) hW hS hf
  · replace hf := hf.2 c10
    refine lv_iload_n hx hb dX11_taken_4 rfl (lv_at hl 2 rfl) ?_
    refine lv_i2l hx hb dX11_taken_5 rfl ?_
    refine lv_lconst (v := 0) hx hb dX11_taken_6 (by decide) ?_
    refine lv_ldc2 (v := 5) hx hb hown (hts _ kw_951) dX11_taken_7 ?_
    refine gm_ci (va_runS (As := [.long v2.toInt64, .long 0, .long 5]) (rest := []) ⟨hx, hb, hml, hown, hts⟩ (m_X11_isWithin l D cy tq _ Y _ _ _ _ _) (va_cwS 3 hts (good_S kw_460 kw_461 kw_1 kw_462) rfl rfl rfl (by decide +kernel) ⟨Nat.le_of_ble_eq_true rfl, Nat.le_of_ble_eq_true rfl⟩) (gm_preS hK hW hC hS hA hf) rfl rfl hl.1 rfl (lv_room (Nat.le_of_ble_eq_true rfl)) dX11_taken_10 ⟨Nat.le_of_ble_eq_true rfl, Nat.le_of_ble_eq_true rfl⟩) hW hS hA (fun r12 M11 H locs hW hS hf => ?_)
    refine lv_if_eq (tgt := 31) hx hb dX11_taken_13 (by decide) (fun c13 => ?_) (fun c13 => ?_)
    · replace hf := hf.1 c13
      exact j31 _ _ _ _ (lv_sub hl [0, 2] rfl) hW hS hf
    · replace hf := hf.2 c13
      refine lv_aload_n hx hb dX11_taken_16 rfl (lv_at hl 0 rfl) ?_
      obtain ⟨k14, hf⟩ := hf
      obtain ⟨b15, hb15, hf⟩ := hf
      refine gm_getR (C := RX11) (T := TX11) (N := 13) (j := 5) hx hb hts inT_11 hown hK hW k14 (by decide) rfl (by decide) rfl (hts _ kw_299) rfl dX11_taken_17 hb15 ?_
      refine lv_iload_n hx hb dX11_taken_20 rfl (lv_at hl 1 rfl) ?_
      obtain ⟨k18, hf⟩ := hf
      refine gm_ci (va_runV (As := [.int v1]) (rest := []) ⟨hx, hb, hml, hown, hts⟩ (m_X6_turnTo l D cy tq _ Y _ _ _ _) (cwV 1 hts (good_V kw_1012 kw_1013 kw_1014 kw_5 kw_1015) rfl rfl rfl (by decide +kernel) ⟨Nat.le_of_ble_eq_true rfl, Nat.le_of_ble_eq_true rfl⟩) (gm_preV hK hW hC hS hA k18 (by decide) (q := (RX6, TX6, 6)) rfl rfl hf) rfl rfl hl.1 rfl (lv_room (Nat.le_of_ble_eq_true rfl)) dX11_taken_21 ⟨Nat.le_of_ble_eq_true rfl, Nat.le_of_ble_eq_true rfl⟩) hW hS hA (fun r17 M16 H locs hW hS hf => ?_)
      refine lv_if_eq (tgt := 31) hx hb dX11_taken_24 (by decide) (fun c19 => ?_) (fun c19 => ?_)
      · replace hf := hf.1 c19
        exact j31 _ _ _ _ (lv_sub hl [0, 2] rfl) hW hS hf
      · replace hf := hf.2 c19
        refine lv_iconst (v := 1) hx hb dX11_taken_27 (by decide +kernel) ?_
        refine lv_goto (tgt := 32) hx hb dX11_taken_28 (by decide) ?_
        exact j32 _ _ _ _ _ (lv_sub hl [0, 2] rfl) hW hS hf

abbrev rm_X11_find : Room := { frames := 8, cells := 2, slots := 12, locals := 213 }
def f_X11_find (Y : Ly) (v0 : Nat) (v1 : Int32) (v2 : Int64) (M : Mm) (Kn : Int64 → Mm → Prop) (Xn : String → Mm → Prop) : Prop :=
  yK Y v0 = 11 ∧ (f_X11_isLog Y v0 v1 M (fun r2 M1 => (f_X11_needArguments Y r2 M1 (fun M4 => (f_X11_needPower Y v0 M4 (fun M5 => (∃ b6 : Nat, mR M5 v0 10 = some b6 ∧ (∃ b7 : Nat, mR M5 v0 10 = some b7 ∧ (yK Y b7 = 9 ∧ (∃ b9 : Nat, mR M5 b7 1 = some b9 ∧ (yK Y b9 = 104 ∧ (vp_in v1 (yN Y b9) ∧ (∃ b12 : Nat, mR M5 b9 v1.toNatClampNeg = some b12 ∧ (yK Y b6 = 9 ∧ (f_X9_firstSince Y b6 b12 v2 M5 (fun r14 M13 => (Kn r14 M13)))))))))))) Xn)) Xn)))
set_option maxHeartbeats 4000000 in
set_option maxRecDepth 100000 in
theorem m_X11_find (l : Launch) (hlt : l.stackTraces = false) (D : va_G) (cy : Cy) (tq sz : Nat) (Y : Ly) (v0 : Nat) (v1 : Int32) (v2 : Int64) (M : Mm) (Kn : Int64 → Mm → Prop) (Xn : String → Mm → Prop) : vx_Met l yX11_find (Cond.code yX11_find cX11_find 4 (some .long) :: TT) rm_X11_find (PcG D cy tq [.ref v0, .int v1, .long v2] sz Y M (f_X11_find Y v0 v1 v2 M Kn Xn)) (va_Ql Kn (BG D cy (Am Y sz) Y) (Am Y sz)) (XX D cy (Am Y sz) Y Xn) 2 12 (Am Y sz) := by
  refine vx_ofW (cc := cX11_find) (maxL := 4) (ret := (some .long)) (by decide) rfl ?_
  intro p e s m args below meth c s₁ B hml hno hv
  obtain ⟨hargs, hsz, hW, hK, hC, hf⟩ := hv
  subst hsz
  have hx := B.exec
  have hb := B.bytes
  have hr := B.returns
  have hts : ∀ w ∈ TT, w.before args s = true := fun w h => atoms_spec (ws := Cond.code yX11_find cX11_find 4 (some .long) :: TT) B.pre w (List.mem_cons_of_mem _ h)
  have hown : s.vm.findClass RX11 = some m.cls := findClass_of_methodNamed B.named
  have hlocks := B.notSynchronized
  replace hW := Wd_self (sz := s.heap.size) hW
  generalize hAe : Am Y s.heap.size = A at hW hC ⊢
  have hA : ∀ q : Nat, s.heap.size ≤ q → A q := fun q h => by rw [← hAe]; exact Or.inr h
  clear hAe
  have hS : va_S A s.heap s.heap [] := va_S.rf
  obtain ⟨ls, hE, hl⟩ := gm_entry m [.ref v0, .int v1, .long v2] (n := 4) hargs (Nat.le_of_ble_eq_true rfl)
  rw [hE]
  have hl : lv_has ls 4 [(0, .ref v0), (1, .int v1), (2, .long v2)] := hl
  show W p l e rm_X11_find s m args below meth c s.heap [] 0 0 (vx_MQ below (va_Ql Kn (BG D cy A Y) A) (XX D cy A Y Xn) args s 2 12 A) (F0 m 0 ls [])
  unfold f_X11_find at hf
  refine lv_aload_n hx hb dX11_find_0 rfl (lv_at hl 0 rfl) ?_
  refine lv_iload_n hx hb dX11_find_1 rfl (lv_at hl 1 rfl) ?_
  obtain ⟨k3, hf⟩ := hf
  refine gm_ci (va_runV (As := [.int v1]) (rest := []) ⟨hx, hb, hml, hown, hts⟩ (m_X11_isLog l D cy tq _ Y _ _ _ _) (cwV 1 hts (good_V kw_932 kw_933 kw_1801 kw_1 kw_934) rfl rfl rfl (by decide +kernel) ⟨Nat.le_of_ble_eq_true rfl, Nat.le_of_ble_eq_true rfl⟩) (gm_preV hK hW hC hS hA k3 (by decide) (q := (RX11, TX11, 13)) rfl rfl hf) rfl rfl hl.1 rfl (lv_room (Nat.le_of_ble_eq_true rfl)) dX11_find_2 ⟨Nat.le_of_ble_eq_true rfl, Nat.le_of_ble_eq_true rfl⟩) hW hS hA (fun r2 M1 H locs hW hS hf => ?_)
  refine gx_cv (vx_runS (As := [.int r2]) (rest := []) ⟨hx, hb, hml, hown, hts⟩ (m_X11_needArguments l hlt D cy tq _ Y _ _ _ _) (va_cwS 1 hts (good_S kw_463 kw_464 kw_1 kw_465) rfl rfl rfl (by decide +kernel) ⟨Nat.le_of_ble_eq_true rfl, Nat.le_of_ble_eq_true rfl⟩) (gm_preS hK hW hC hS hA hf) rfl rfl hl.1 rfl (lv_room (Nat.le_of_ble_eq_true rfl)) dX11_find_5 ⟨Nat.le_of_ble_eq_true rfl, Nat.le_of_ble_eq_true rfl⟩) hW hS hA (fun E M9 H locs ce q9 hW hS hf h1 h2 h3 => gx_out hno hlocks hW hS hf h1 h2 h3 (Nat.le_of_ble_eq_true rfl) (Nat.le_of_ble_eq_true rfl)) (fun M4 H locs hW hS hf => ?_)
  refine lv_aload_n hx hb dX11_find_8 rfl (lv_at hl 0 rfl) ?_
  refine gx_cv (vx_runV (As := []) (rest := []) ⟨hx, hb, hml, hown, hts⟩ (m_X11_needPower l hlt D cy tq _ Y _ _ _ _) (cwV 0 hts (good_V kw_842 kw_843 kw_1794 kw_1 kw_844) rfl rfl rfl (by decide +kernel) ⟨Nat.le_of_ble_eq_true rfl, Nat.le_of_ble_eq_true rfl⟩) (gm_preV hK hW hC hS hA k3 (by decide) (q := (RX11, TX11, 13)) rfl rfl hf) rfl rfl hl.1 rfl (lv_room (Nat.le_of_ble_eq_true rfl)) dX11_find_9 ⟨Nat.le_of_ble_eq_true rfl, Nat.le_of_ble_eq_true rfl⟩) hW hS hA (fun E M9 H locs ce q9 hW hS hf h1 h2 h3 => gx_out hno hlocks hW hS hf h1 h2 h3 (Nat.le_of_ble_eq_true rfl) (Nat.le_of_ble_eq_true rfl)) (fun M5 H locs hW hS hf => ?_)
  refine lv_aload_n hx hb dX11_find_12 rfl (lv_at hl 0 rfl) ?_
  obtain ⟨b6, hb6, hf⟩ := hf
  refine gm_getR (C := RX11) (T := TX11) (N := 13) (j := 10) hx hb hts inT_11 hown hK hW k3 (by decide) rfl (by decide) rfl (hts _ kw_304) rfl dX11_find_13 hb6 ?_
  refine lv_aload_n hx hb dX11_find_16 rfl (lv_at hl 0 rfl) ?_
  obtain ⟨b7, hb7, hf⟩ := hf
  refine gm_getR (C := RX11) (T := TX11) (N := 13) (j := 10) hx hb hts inT_11 hown hK hW k3 (by decide) rfl (by decide) rfl (hts _ kw_304) rfl dX11_find_17 hb7 ?_
  obtain ⟨k8, hf⟩ := hf
  obtain ⟨b9, hb9, hf⟩ := hf
  refine gm_getR (C := RX9) (T := TX9) (N := 7) (j := 1) hx hb hts inT_9 hown hK hW k8 (by decide) rfl (by decide) rfl (hts _ kw_218) rfl dX11_find_20 hb9 ?_
  refine lv_iload_n hx hb dX11_find_23 rfl (lv_at hl 1 rfl) ?_
  obtain ⟨k10, hf⟩ := hf
  obtain ⟨h11, hf⟩ := hf
  obtain ⟨b12, hb12, hf⟩ := hf
  refine gm_aald hx hb hK hW k10 h11 hb12 dX11_find_24 ?_
  refine lv_lload_n hx hb dX11_find_25 rfl (lv_at hl 2 rfl) ?_
  obtain ⟨k15, hf⟩ := hf
  refine gm_cl (va_runV (As := [.ref b12, .long v2]) (rest := []) ⟨hx, hb, hml, hown, hts⟩ (m_X9_firstSince l D cy tq _ Y _ _ _ _ _) (cwV 2 hts (good_V kw_1036 kw_1037 kw_1038 kw_8 kw_1039) rfl rfl rfl (by decide +kernel) ⟨Nat.le_of_ble_eq_true rfl, Nat.le_of_ble_eq_true rfl⟩) (gm_preV hK hW hC hS hA k15 (by decide) (q := (RX9, TX9, 7)) rfl rfl hf) rfl rfl hl.1 rfl (lv_room (Nat.le_of_ble_eq_true rfl)) dX11_find_26 ⟨Nat.le_of_ble_eq_true rfl, Nat.le_of_ble_eq_true rfl⟩) hW hS hA (fun r14 M13 H locs hW hS hf => ?_)
  exact vx_ret (gm_lret hx hb hr hlocks hW hS hf dX11_find_29)

abbrev rm_X11_retain : Room := { frames := 8, cells := 2, slots := 12, locals := 174 }
def f_X11_retain_17 (Y : Ly) (v0 : Nat) (v1 : Int32) (v2 : Int32) (Kn : Int32 → Mm → Prop) (Xn : String → Mm → Prop) (M1 : Mm) (y4 : Int32) : Prop :=
  f_X11_needArguments Y y4 M1 (fun M5 => (f_X11_needPower Y v0 M5 (fun M6 => (∃ b7 : Nat, mR M6 v0 10 = some b7 ∧ (∃ b8 : Nat, mR M6 v0 10 = some b8 ∧ (yK Y b8 = 9 ∧ (∃ b10 : Nat, mR M6 b8 1 = some b10 ∧ (yK Y b10 = 104 ∧ (vp_in v1 (yN Y b10) ∧ (∃ b13 : Nat, mR M6 b10 v1.toNatClampNeg = some b13 ∧ (yK Y b7 = 9 ∧ (f_X9_dropDownTo Y b7 b13 v2 M6 (fun r15 M14 => (Kn r15 M14)))))))))))) Xn)) Xn
def f_X11_retain_16 (Y : Ly) (v0 : Nat) (v1 : Int32) (v2 : Int32) (Kn : Int32 → Mm → Prop) (Xn : String → Mm → Prop) (M1 : Mm) : Prop :=
  f_X11_retain_17 Y v0 v1 v2 Kn Xn M1 0
def f_X11_retain (Y : Ly) (v0 : Nat) (v1 : Int32) (v2 : Int32) (M : Mm) (Kn : Int32 → Mm → Prop) (Xn : String → Mm → Prop) : Prop :=
  yK Y v0 = 11 ∧ (f_X11_isForProducers Y v0 v1 M (fun r2 M1 => ((r2 = 0 → (f_X11_retain_16 Y v0 v1 v2 Kn Xn M1)) ∧ (¬ (r2 = 0) → ((v2 < 0 → (f_X11_retain_16 Y v0 v1 v2 Kn Xn M1)) ∧ (¬ (v2 < 0) → (f_X11_retain_17 Y v0 v1 v2 Kn Xn M1 1)))))))
set_option maxHeartbeats 4000000 in
set_option maxRecDepth 100000 in
theorem m_X11_retain (l : Launch) (hlt : l.stackTraces = false) (D : va_G) (cy : Cy) (tq sz : Nat) (Y : Ly) (v0 : Nat) (v1 : Int32) (v2 : Int32) (M : Mm) (Kn : Int32 → Mm → Prop) (Xn : String → Mm → Prop) : vx_Met l yX11_retain (Cond.code yX11_retain cX11_retain 3 (some .int) :: TT) rm_X11_retain (PcG D cy tq [.ref v0, .int v1, .int v2] sz Y M (f_X11_retain Y v0 v1 v2 M Kn Xn)) (va_Qi Kn (BG D cy (Am Y sz) Y) (Am Y sz)) (XX D cy (Am Y sz) Y Xn) 2 12 (Am Y sz) := by
  refine vx_ofW (cc := cX11_retain) (maxL := 3) (ret := (some .int)) (by decide) rfl ?_
  intro p e s m args below meth c s₁ B hml hno hv
  obtain ⟨hargs, hsz, hW, hK, hC, hf⟩ := hv
  subst hsz
  have hx := B.exec
  have hb := B.bytes
  have hr := B.returns
  have hts : ∀ w ∈ TT, w.before args s = true := fun w h => atoms_spec (ws := Cond.code yX11_retain cX11_retain 3 (some .int) :: TT) B.pre w (List.mem_cons_of_mem _ h)
  have hown : s.vm.findClass RX11 = some m.cls := findClass_of_methodNamed B.named
  have hlocks := B.notSynchronized
  replace hW := Wd_self (sz := s.heap.size) hW
  generalize hAe : Am Y s.heap.size = A at hW hC ⊢
  have hA : ∀ q : Nat, s.heap.size ≤ q → A q := fun q h => by rw [← hAe]; exact Or.inr h
  clear hAe
  have hS : va_S A s.heap s.heap [] := va_S.rf
  obtain ⟨ls, hE, hl⟩ := gm_entry m [.ref v0, .int v1, .int v2] (n := 3) hargs (Nat.le_of_ble_eq_true rfl)
  rw [hE]
  have hl : lv_has ls 3 [(0, .ref v0), (1, .int v1), (2, .int v2)] := hl
  show W p l e rm_X11_retain s m args below meth c s.heap [] 0 0 (vx_MQ below (va_Qi Kn (BG D cy A Y) A) (XX D cy A Y Xn) args s 2 12 A) (F0 m 0 ls [])
  unfold f_X11_retain at hf
  refine lv_aload_n hx hb dX11_retain_0 rfl (lv_at hl 0 rfl) ?_
  refine lv_iload_n hx hb dX11_retain_1 rfl (lv_at hl 1 rfl) ?_
  obtain ⟨k3, hf⟩ := hf
  refine gm_ci (va_runV (As := [.int v1]) (rest := []) ⟨hx, hb, hml, hown, hts⟩ (m_X11_isForProducers l D cy tq _ Y _ _ _ _) (cwV 1 hts (good_V kw_859 kw_860 kw_1795 kw_1 kw_861) rfl rfl rfl (by decide +kernel) ⟨Nat.le_of_ble_eq_true rfl, Nat.le_of_ble_eq_true rfl⟩) (gm_preV hK hW hC hS hA k3 (by decide) (q := (RX11, TX11, 13)) rfl rfl hf) rfl rfl hl.1 rfl (lv_room (Nat.le_of_ble_eq_true rfl)) dX11_retain_2 ⟨Nat.le_of_ble_eq_true rfl, Nat.le_of_ble_eq_true rfl⟩) hW hS hA (fun r2 M1 H locs hW hS hf => ?_)
  have j17 : ∀ (y4 : Int32) (H : Heap) (locs : List Loc) (ls : Array Slot), lv_has ls 3 [(0, .ref v0), (1, .int v1), (2, .int v2)] → Wd D cy A Y M1 H → va_S A s.heap H locs → f_X11_retain_17 Y v0 v1 v2 Kn Xn M1 y4 → W p l e rm_X11_retain s m args below meth c H locs 0 0 (vx_MQ below (va_Qi Kn (BG D cy A Y) A) (XX D cy A Y Xn) args s 2 12 A) (F0 m 17 ls [.int y4]) := by
    intro y4 H locs ls hl hW hS hf
    unfold f_X11_retain_17 at hf
    refine gx_cv (vx_runS (As := [.int y4]) (rest := []) ⟨hx, hb, hml, hown, hts⟩ (m_X11_needArguments l hlt D cy tq _ Y _ _ _ _) (va_cwS 1 hts (good_S kw_463 kw_464 kw_1 kw_465) rfl rfl rfl (by decide +kernel) ⟨Nat.le_of_ble_eq_true rfl, Nat.le_of_ble_eq_true rfl⟩) (gm_preS hK hW hC hS hA hf) rfl rfl hl.1 rfl (lv_room (Nat.le_of_ble_eq_true rfl)) dX11_retain_17 ⟨Nat.le_of_ble_eq_true rfl, Nat.le_of_ble_eq_true rfl⟩) hW hS hA (fun E M9 H locs ce q9 hW hS hf h1 h2 h3 => gx_out hno hlocks hW hS hf h1 h2 h3 (Nat.le_of_ble_eq_true rfl) (Nat.le_of_ble_eq_true rfl)) (fun M5 H locs hW hS hf => ?_)
    refine lv_aload_n hx hb dX11_retain_20 rfl (lv_at hl 0 rfl) ?_
    refine gx_cv (vx_runV (As := []) (rest := []) ⟨hx, hb, hml, hown, hts⟩ (m_X11_needPower l hlt D cy tq _ Y _ _ _ _) (cwV 0 hts (good_V kw_842 kw_843 kw_1794 kw_1 kw_844) rfl rfl rfl (by decide +kernel) ⟨Nat.le_of_ble_eq_true rfl, Nat.le_of_ble_eq_true rfl⟩) (gm_preV hK hW hC hS hA k3 (by decide) (q := (RX11, TX11, 13)) rfl rfl hf) rfl rfl hl.1 rfl (lv_room (Nat.le_of_ble_eq_true rfl)) dX11_retain_21 ⟨Nat.le_of_ble_eq_true rfl, Nat.le_of_ble_eq_true rfl⟩) hW hS hA (fun E M9 H locs ce q9 hW hS hf h1 h2 h3 => gx_out hno hlocks hW hS hf h1 h2 h3 (Nat.le_of_ble_eq_true rfl) (Nat.le_of_ble_eq_true rfl)) (fun M6 H locs hW hS hf => ?_)
    refine lv_aload_n hx hb dX11_retain_24 rfl (lv_at hl 0 rfl) ?_
    obtain ⟨b7, hb7, hf⟩ := hf
    refine gm_getR (C := RX11) (T := TX11) (N := 13) (j := 10) hx hb hts inT_11 hown hK hW k3 (by decide) rfl (by decide) rfl (hts _ kw_304) rfl dX11_retain_25 hb7 ?_
    refine lv_aload_n hx hb dX11_retain_28 rfl (lv_at hl 0 rfl) ?_
    obtain ⟨b8, hb8, hf⟩ := hf
    refine gm_getR (C := RX11) (T := TX11) (N := 13) (j := 10) hx hb hts inT_11 hown hK hW k3 (by decide) rfl (by decide) rfl (hts _ kw_304) rfl dX11_retain_29 hb8 ?_
    obtain ⟨k9, hf⟩ := hf
    obtain ⟨b10, hb10, hf⟩ := hf
    refine gm_getR (C := RX9) (T := TX9) (N := 7) (j := 1) hx hb hts inT_9 hown hK hW k9 (by decide) rfl (by decide) rfl (hts _ kw_218) rfl dX11_retain_32 hb10 ?_
    refine lv_iload_n hx hb dX11_retain_35 rfl (lv_at hl 1 rfl) ?_
    obtain ⟨k11, hf⟩ := hf
    obtain ⟨h12, hf⟩ := hf
    obtain ⟨b13, hb13, hf⟩ := hf
    refine gm_aald hx hb hK hW k11 h12 hb13 dX11_retain_36 ?_
    refine lv_iload_n hx hb dX11_retain_37 rfl (lv_at hl 2 rfl) ?_
    obtain ⟨k16, hf⟩ := hf
    refine gm_ci (va_runV (As := [.ref b13, .int v2]) (rest := []) ⟨hx, hb, hml, hown, hts⟩ (m_X9_dropDownTo l D cy tq _ Y _ _ _ _ _) (cwV 2 hts (good_V kw_1052 kw_1053 kw_1054 kw_8 kw_1055) rfl rfl rfl (by decide +kernel) ⟨Nat.le_of_ble_eq_true rfl, Nat.le_of_ble_eq_true rfl⟩) (gm_preV hK hW hC hS hA k16 (by decide) (q := (RX9, TX9, 7)) rfl rfl hf) rfl rfl hl.1 rfl (lv_room (Nat.le_of_ble_eq_true rfl)) dX11_retain_38 ⟨Nat.le_of_ble_eq_true rfl, Nat.le_of_ble_eq_true rfl⟩) hW hS hA (fun r15 M14 H locs hW hS hf => ?_)
    exact vx_ret (gm_iret hx hb hr hlocks hW hS hf dX11_retain_41)
  have j16 : ∀ (H : Heap) (locs : List Loc) (ls : Array Slot), lv_has ls 3 [(0, .ref v0), (1, .int v1), (2, .int v2)] → Wd D cy A Y M1 H → va_S A s.heap H locs → f_X11_retain_16 Y v0 v1 v2 Kn Xn M1  → W p l e rm_X11_retain s m args below meth c H locs 0 0 (vx_MQ below (va_Qi Kn (BG D cy A Y) A) (XX D cy A Y Xn) args s 2 12 A) (F0 m 16 ls []) := by
    intro  H locs ls hl hW hS hf
    unfold f_X11_retain_16 at hf
    refine lv_iconst (v := 0) hx hb dX11_retain_16 (by decide +kernel) ?_
    exact j17 _ _ _ _ (lv_sub hl [0, 1, 2] rfl) hW hS hf
  refine lv_if_eq (tgt := 16) hx hb dX11_retain_5 (by decide) (fun c17 => ?_) (fun c17 => ?_)
  · replace hf := hf.1 c17
    exact j16  _ _ _ (lv_sub hl [0, 1, 2] rfl) hW hS hf
  · replace hf := hf.2 c17
    refine lv_iload_n hx hb dX11_retain_8 rfl (lv_at hl 2 rfl) ?_
    refine lv_if_lt (tgt := 16) hx hb dX11_retain_9 (by decide) (fun c18 => ?_) (fun c18 => ?_)
    · replace hf := hf.1 c18
      exact j16  _ _ _ (lv_sub hl [0, 1, 2] rfl) hW hS hf
    · replace hf := hf.2 c18
      refine lv_iconst (v := 1) hx hb dX11_retain_12 (by decide +kernel) ?_
      refine lv_goto (tgt := 17) hx hb dX11_retain_13 (by decide) ?_
      exact j17 _ _ _ _ (lv_sub hl [0, 1, 2] rfl) hW hS hf

abbrev rm_X11_compact : Room := { frames := 8, cells := 2, slots := 12, locals := 228 }
def f_X11_compact (Y : Ly) (v0 : Nat) (v1 : Int32) (M : Mm) (Kn : Int32 → Mm → Prop) (Xn : String → Mm → Prop) : Prop :=
  yK Y v0 = 11 ∧ (f_X11_isLog Y v0 v1 M (fun r2 M1 => (f_X11_needArguments Y r2 M1 (fun M4 => (f_X11_needPower Y v0 M4 (fun M5 => (∃ b6 : Nat, mR M5 v0 11 = some b6 ∧ (∃ b7 : Nat, mR M5 v0 10 = some b7 ∧ (yK Y b7 = 9 ∧ (∃ b9 : Nat, mR M5 b7 1 = some b9 ∧ (yK Y b9 = 104 ∧ (vp_in v1 (yN Y b9) ∧ (∃ b12 : Nat, mR M5 b9 v1.toNatClampNeg = some b12 ∧ (∃ b13 : Nat, mR M5 v0 12 = some b13 ∧ (yK Y b13 = 7 ∧ (yK Y b6 = 2 ∧ (f_X2_run Y b6 b12 (mI M5 b13 0) M5 (fun r16 M15 => (Kn r16 M15)))))))))))))) Xn)) Xn)))
set_option maxHeartbeats 4000000 in
set_option maxRecDepth 100000 in
theorem m_X11_compact (l : Launch) (hlt : l.stackTraces = false) (D : va_G) (cy : Cy) (tq sz : Nat) (Y : Ly) (v0 : Nat) (v1 : Int32) (M : Mm) (Kn : Int32 → Mm → Prop) (Xn : String → Mm → Prop) : vx_Met l yX11_compact (Cond.code yX11_compact cX11_compact 2 (some .int) :: TT) rm_X11_compact (PcG D cy tq [.ref v0, .int v1] sz Y M (f_X11_compact Y v0 v1 M Kn Xn)) (va_Qi Kn (BG D cy (Am Y sz) Y) (Am Y sz)) (XX D cy (Am Y sz) Y Xn) 2 12 (Am Y sz) := by
  refine vx_ofW (cc := cX11_compact) (maxL := 2) (ret := (some .int)) (by decide) rfl ?_
  intro p e s m args below meth c s₁ B hml hno hv
  obtain ⟨hargs, hsz, hW, hK, hC, hf⟩ := hv
  subst hsz
  have hx := B.exec
  have hb := B.bytes
  have hr := B.returns
  have hts : ∀ w ∈ TT, w.before args s = true := fun w h => atoms_spec (ws := Cond.code yX11_compact cX11_compact 2 (some .int) :: TT) B.pre w (List.mem_cons_of_mem _ h)
  have hown : s.vm.findClass RX11 = some m.cls := findClass_of_methodNamed B.named
  have hlocks := B.notSynchronized
  replace hW := Wd_self (sz := s.heap.size) hW
  generalize hAe : Am Y s.heap.size = A at hW hC ⊢
  have hA : ∀ q : Nat, s.heap.size ≤ q → A q := fun q h => by rw [← hAe]; exact Or.inr h
  clear hAe
  have hS : va_S A s.heap s.heap [] := va_S.rf
  obtain ⟨ls, hE, hl⟩ := gm_entry m [.ref v0, .int v1] (n := 2) hargs (Nat.le_of_ble_eq_true rfl)
  rw [hE]
  have hl : lv_has ls 2 [(0, .ref v0), (1, .int v1)] := hl
  show W p l e rm_X11_compact s m args below meth c s.heap [] 0 0 (vx_MQ below (va_Qi Kn (BG D cy A Y) A) (XX D cy A Y Xn) args s 2 12 A) (F0 m 0 ls [])
  unfold f_X11_compact at hf
  refine lv_aload_n hx hb dX11_compact_0 rfl (lv_at hl 0 rfl) ?_
  refine lv_iload_n hx hb dX11_compact_1 rfl (lv_at hl 1 rfl) ?_
  obtain ⟨k3, hf⟩ := hf
  refine gm_ci (va_runV (As := [.int v1]) (rest := []) ⟨hx, hb, hml, hown, hts⟩ (m_X11_isLog l D cy tq _ Y _ _ _ _) (cwV 1 hts (good_V kw_932 kw_933 kw_1801 kw_1 kw_934) rfl rfl rfl (by decide +kernel) ⟨Nat.le_of_ble_eq_true rfl, Nat.le_of_ble_eq_true rfl⟩) (gm_preV hK hW hC hS hA k3 (by decide) (q := (RX11, TX11, 13)) rfl rfl hf) rfl rfl hl.1 rfl (lv_room (Nat.le_of_ble_eq_true rfl)) dX11_compact_2 ⟨Nat.le_of_ble_eq_true rfl, Nat.le_of_ble_eq_true rfl⟩) hW hS hA (fun r2 M1 H locs hW hS hf => ?_)
  refine gx_cv (vx_runS (As := [.int r2]) (rest := []) ⟨hx, hb, hml, hown, hts⟩ (m_X11_needArguments l hlt D cy tq _ Y _ _ _ _) (va_cwS 1 hts (good_S kw_463 kw_464 kw_1 kw_465) rfl rfl rfl (by decide +kernel) ⟨Nat.le_of_ble_eq_true rfl, Nat.le_of_ble_eq_true rfl⟩) (gm_preS hK hW hC hS hA hf) rfl rfl hl.1 rfl (lv_room (Nat.le_of_ble_eq_true rfl)) dX11_compact_5 ⟨Nat.le_of_ble_eq_true rfl, Nat.le_of_ble_eq_true rfl⟩) hW hS hA (fun E M9 H locs ce q9 hW hS hf h1 h2 h3 => gx_out hno hlocks hW hS hf h1 h2 h3 (Nat.le_of_ble_eq_true rfl) (Nat.le_of_ble_eq_true rfl)) (fun M4 H locs hW hS hf => ?_)
  refine lv_aload_n hx hb dX11_compact_8 rfl (lv_at hl 0 rfl) ?_
  refine gx_cv (vx_runV (As := []) (rest := []) ⟨hx, hb, hml, hown, hts⟩ (m_X11_needPower l hlt D cy tq _ Y _ _ _ _) (cwV 0 hts (good_V kw_842 kw_843 kw_1794 kw_1 kw_844) rfl rfl rfl (by decide +kernel) ⟨Nat.le_of_ble_eq_true rfl, Nat.le_of_ble_eq_true rfl⟩) (gm_preV hK hW hC hS hA k3 (by decide) (q := (RX11, TX11, 13)) rfl rfl hf) rfl rfl hl.1 rfl (lv_room (Nat.le_of_ble_eq_true rfl)) dX11_compact_9 ⟨Nat.le_of_ble_eq_true rfl, Nat.le_of_ble_eq_true rfl⟩) hW hS hA (fun E M9 H locs ce q9 hW hS hf h1 h2 h3 => gx_out hno hlocks hW hS hf h1 h2 h3 (Nat.le_of_ble_eq_true rfl) (Nat.le_of_ble_eq_true rfl)) (fun M5 H locs hW hS hf => ?_)
  refine lv_aload_n hx hb dX11_compact_12 rfl (lv_at hl 0 rfl) ?_
  obtain ⟨b6, hb6, hf⟩ := hf
  refine gm_getR (C := RX11) (T := TX11) (N := 13) (j := 11) hx hb hts inT_11 hown hK hW k3 (by decide) rfl (by decide) rfl (hts _ kw_305) rfl dX11_compact_13 hb6 ?_
  refine lv_aload_n hx hb dX11_compact_16 rfl (lv_at hl 0 rfl) ?_
  obtain ⟨b7, hb7, hf⟩ := hf
  refine gm_getR (C := RX11) (T := TX11) (N := 13) (j := 10) hx hb hts inT_11 hown hK hW k3 (by decide) rfl (by decide) rfl (hts _ kw_304) rfl dX11_compact_17 hb7 ?_
  obtain ⟨k8, hf⟩ := hf
  obtain ⟨b9, hb9, hf⟩ := hf
  refine gm_getR (C := RX9) (T := TX9) (N := 7) (j := 1) hx hb hts inT_9 hown hK hW k8 (by decide) rfl (by decide) rfl (hts _ kw_218) rfl dX11_compact_20 hb9 ?_
  refine lv_iload_n hx hb dX11_compact_23 rfl (lv_at hl 1 rfl) ?_
  obtain ⟨k10, hf⟩ := hf
  obtain ⟨h11, hf⟩ := hf
  obtain ⟨b12, hb12, hf⟩ := hf
  refine gm_aald hx hb hK hW k10 h11 hb12 dX11_compact_24 ?_
  refine lv_aload_n hx hb dX11_compact_25 rfl (lv_at hl 0 rfl) ?_
  obtain ⟨b13, hb13, hf⟩ := hf
  refine gm_getR (C := RX11) (T := TX11) (N := 13) (j := 12) hx hb hts inT_11 hown hK hW k3 (by decide) rfl (by decide) rfl (hts _ kw_306) rfl dX11_compact_26 hb13 ?_
  obtain ⟨k14, hf⟩ := hf
  refine gm_getI (C := RX7) (T := TX7) (N := 9) (j := 0) hx hb hts inT_7 hown hK hW k14 (by decide) rfl (by decide) rfl (hts _ kw_272) rfl dX11_compact_29 ?_
  obtain ⟨k17, hf⟩ := hf
  refine gm_ci (va_runV (As := [.ref b12, .int (mI M5 b13 0)]) (rest := []) ⟨hx, hb, hml, hown, hts⟩ (m_X2_run l D cy tq _ Y _ _ _ _ _) (cwV 2 hts (good_V kw_1069 kw_1070 kw_1071 kw_10 kw_1072) rfl rfl rfl (by decide +kernel) ⟨Nat.le_of_ble_eq_true rfl, Nat.le_of_ble_eq_true rfl⟩) (gm_preV hK hW hC hS hA k17 (by decide) (q := (RX2, TX2, 13)) rfl rfl hf) rfl rfl hl.1 rfl (lv_room (Nat.le_of_ble_eq_true rfl)) dX11_compact_32 ⟨Nat.le_of_ble_eq_true rfl, Nat.le_of_ble_eq_true rfl⟩) hW hS hA (fun r16 M15 H locs hW hS hf => ?_)
  exact vx_ret (gm_iret hx hb hr hlocks hW hS hf dX11_compact_35)

abbrev rm_X11_join : Room := { frames := 8, cells := 2, slots := 12, locals := 225 }
def f_X11_join_19 (Y : Ly) (v0 : Nat) (v1 : Int32) (v2 : Int32) (Kn : Int32 → Mm → Prop) (Xn : String → Mm → Prop) (y3 : Int32) (M4 : Mm) : Prop :=
  f_X11_needArguments Y y3 M4 (fun M5 => (yK Y v0 = 11 ∧ (f_X11_needPower Y v0 M5 (fun M6 => (∃ b8 : Nat, mR M6 v0 12 = some b8 ∧ (yK Y b8 = 7 ∧ (f_X7_enter Y b8 v1 v2 M6 (fun r10 M9 => (Kn r10 M9)))))) Xn))) Xn
def f_X11_join_18 (Y : Ly) (v0 : Nat) (v1 : Int32) (v2 : Int32) (Kn : Int32 → Mm → Prop) (Xn : String → Mm → Prop) (M12 : Mm) : Prop :=
  f_X11_join_19 Y v0 v1 v2 Kn Xn 0 M12
def f_X11_join (Y : Ly) (v0 : Nat) (v1 : Int32) (v2 : Int32) (M : Mm) (Kn : Int32 → Mm → Prop) (Xn : String → Mm → Prop) : Prop :=
  f_X11_isOfEight Y v1 M (fun r2 M1 => ((r2 = 0 → (f_X11_join_18 Y v0 v1 v2 Kn Xn M1)) ∧ (¬ (r2 = 0) → (f_X11_isOfEight Y v2 M1 (fun r15 M14 => ((r15 = 0 → (f_X11_join_18 Y v0 v1 v2 Kn Xn M14)) ∧ (¬ (r15 = 0) → (f_X11_join_19 Y v0 v1 v2 Kn Xn 1 M14))))))))
set_option maxHeartbeats 4000000 in
set_option maxRecDepth 100000 in
theorem m_X11_join (l : Launch) (hlt : l.stackTraces = false) (D : va_G) (cy : Cy) (tq sz : Nat) (Y : Ly) (v0 : Nat) (v1 : Int32) (v2 : Int32) (M : Mm) (Kn : Int32 → Mm → Prop) (Xn : String → Mm → Prop) : vx_Met l yX11_join (Cond.code yX11_join cX11_join 3 (some .int) :: TT) rm_X11_join (PcG D cy tq [.ref v0, .int v1, .int v2] sz Y M (f_X11_join Y v0 v1 v2 M Kn Xn)) (va_Qi Kn (BG D cy (Am Y sz) Y) (Am Y sz)) (XX D cy (Am Y sz) Y Xn) 2 12 (Am Y sz) := by
  refine vx_ofW (cc := cX11_join) (maxL := 3) (ret := (some .int)) (by decide) rfl ?_
  intro p e s m args below meth c s₁ B hml hno hv
  obtain ⟨hargs, hsz, hW, hK, hC, hf⟩ := hv
  subst hsz
  have hx := B.exec
  have hb := B.bytes
  have hr := B.returns
  have hts : ∀ w ∈ TT, w.before args s = true := fun w h => atoms_spec (ws := Cond.code yX11_join cX11_join 3 (some .int) :: TT) B.pre w (List.mem_cons_of_mem _ h)
  have hown : s.vm.findClass RX11 = some m.cls := findClass_of_methodNamed B.named
  have hlocks := B.notSynchronized
  replace hW := Wd_self (sz := s.heap.size) hW
  generalize hAe : Am Y s.heap.size = A at hW hC ⊢
  have hA : ∀ q : Nat, s.heap.size ≤ q → A q := fun q h => by rw [← hAe]; exact Or.inr h
  clear hAe
  have hS : va_S A s.heap s.heap [] := va_S.rf
  obtain ⟨ls, hE, hl⟩ := gm_entry m [.ref v0, .int v1, .int v2] (n := 3) hargs (Nat.le_of_ble_eq_true rfl)
  rw [hE]
  have hl : lv_has ls 3 [(0, .ref v0), (1, .int v1), (2, .int v2)] := hl
  show W p l e rm_X11_join s m args below meth c s.heap [] 0 0 (vx_MQ below (va_Qi Kn (BG D cy A Y) A) (XX D cy A Y Xn) args s 2 12 A) (F0 m 0 ls [])
  unfold f_X11_join at hf
  refine lv_iload_n hx hb dX11_join_0 rfl (lv_at hl 1 rfl) ?_
  refine gm_ci (va_runS (As := [.int v1]) (rest := []) ⟨hx, hb, hml, hown, hts⟩ (m_X11_isOfEight l D cy tq _ Y _ _ _) (va_cwS 1 hts (good_S kw_1141 kw_1142 kw_1 kw_1143) rfl rfl rfl (by decide +kernel) ⟨Nat.le_of_ble_eq_true rfl, Nat.le_of_ble_eq_true rfl⟩) (gm_preS hK hW hC hS hA hf) rfl rfl hl.1 rfl (lv_room (Nat.le_of_ble_eq_true rfl)) dX11_join_1 ⟨Nat.le_of_ble_eq_true rfl, Nat.le_of_ble_eq_true rfl⟩) hW hS hA (fun r2 M1 H locs hW hS hf => ?_)
  have j19 : ∀ (y3 : Int32) (M4 : Mm) (H : Heap) (locs : List Loc) (ls : Array Slot), lv_has ls 3 [(0, .ref v0), (1, .int v1), (2, .int v2)] → Wd D cy A Y M4 H → va_S A s.heap H locs → f_X11_join_19 Y v0 v1 v2 Kn Xn y3 M4 → W p l e rm_X11_join s m args below meth c H locs 0 0 (vx_MQ below (va_Qi Kn (BG D cy A Y) A) (XX D cy A Y Xn) args s 2 12 A) (F0 m 19 ls [.int y3]) := by
    intro y3 M4 H locs ls hl hW hS hf
    unfold f_X11_join_19 at hf
    refine gx_cv (vx_runS (As := [.int y3]) (rest := []) ⟨hx, hb, hml, hown, hts⟩ (m_X11_needArguments l hlt D cy tq _ Y _ _ _ _) (va_cwS 1 hts (good_S kw_463 kw_464 kw_1 kw_465) rfl rfl rfl (by decide +kernel) ⟨Nat.le_of_ble_eq_true rfl, Nat.le_of_ble_eq_true rfl⟩) (gm_preS hK hW hC hS hA hf) rfl rfl hl.1 rfl (lv_room (Nat.le_of_ble_eq_true rfl)) dX11_join_19 ⟨Nat.le_of_ble_eq_true rfl, Nat.le_of_ble_eq_true rfl⟩) hW hS hA (fun E M9 H locs ce q9 hW hS hf h1 h2 h3 => gx_out hno hlocks hW hS hf h1 h2 h3 (Nat.le_of_ble_eq_true rfl) (Nat.le_of_ble_eq_true rfl)) (fun M5 H locs hW hS hf => ?_)
    refine lv_aload_n hx hb dX11_join_22 rfl (lv_at hl 0 rfl) ?_
    obtain ⟨k7, hf⟩ := hf
    refine gx_cv (vx_runV (As := []) (rest := []) ⟨hx, hb, hml, hown, hts⟩ (m_X11_needPower l hlt D cy tq _ Y _ _ _ _) (cwV 0 hts (good_V kw_842 kw_843 kw_1794 kw_1 kw_844) rfl rfl rfl (by decide +kernel) ⟨Nat.le_of_ble_eq_true rfl, Nat.le_of_ble_eq_true rfl⟩) (gm_preV hK hW hC hS hA k7 (by decide) (q := (RX11, TX11, 13)) rfl rfl hf) rfl rfl hl.1 rfl (lv_room (Nat.le_of_ble_eq_true rfl)) dX11_join_23 ⟨Nat.le_of_ble_eq_true rfl, Nat.le_of_ble_eq_true rfl⟩) hW hS hA (fun E M9 H locs ce q9 hW hS hf h1 h2 h3 => gx_out hno hlocks hW hS hf h1 h2 h3 (Nat.le_of_ble_eq_true rfl) (Nat.le_of_ble_eq_true rfl)) (fun M6 H locs hW hS hf => ?_)
    refine lv_aload_n hx hb dX11_join_26 rfl (lv_at hl 0 rfl) ?_
    obtain ⟨b8, hb8, hf⟩ := hf
    refine gm_getR (C := RX11) (T := TX11) (N := 13) (j := 12) hx hb hts inT_11 hown hK hW k7 (by decide) rfl (by decide) rfl (hts _ kw_306) rfl dX11_join_27 hb8 ?_
    refine lv_iload_n hx hb dX11_join_30 rfl (lv_at hl 1 rfl) ?_
    refine lv_iload_n hx hb dX11_join_31 rfl (lv_at hl 2 rfl) ?_
    obtain ⟨k11, hf⟩ := hf
    refine gm_ci (va_runV (As := [.int v1, .int v2]) (rest := []) ⟨hx, hb, hml, hown, hts⟩ (m_X7_enter l D cy tq _ Y _ _ _ _ _) (cwV 2 hts (good_V kw_1145 kw_1146 kw_1147 kw_11 kw_1148) rfl rfl rfl (by decide +kernel) ⟨Nat.le_of_ble_eq_true rfl, Nat.le_of_ble_eq_true rfl⟩) (gm_preV hK hW hC hS hA k11 (by decide) (q := (RX7, TX7, 9)) rfl rfl hf) rfl rfl hl.1 rfl (lv_room (Nat.le_of_ble_eq_true rfl)) dX11_join_32 ⟨Nat.le_of_ble_eq_true rfl, Nat.le_of_ble_eq_true rfl⟩) hW hS hA (fun r10 M9 H locs hW hS hf => ?_)
    exact vx_ret (gm_iret hx hb hr hlocks hW hS hf dX11_join_35)
  have j18 : ∀ (M12 : Mm) (H : Heap) (locs : List Loc) (ls : Array Slot), lv_has ls 3 [(0, .ref v0), (1, .int v1), (2, .int v2)] → Wd D cy A Y M12 H → va_S A s.heap H locs → f_X11_join_18 Y v0 v1 v2 Kn Xn M12 → W p l e rm_X11_join s m args below meth c H locs 0 0 (vx_MQ below (va_Qi Kn (BG D cy A Y) A) (XX D cy A Y Xn) args s 2 12 A) (F0 m 18 ls []) := by
    intro M12 H locs ls hl hW hS hf
    unfold f_X11_join_18 at hf
    refine lv_iconst (v := 0) hx hb dX11_join_18 (by decide +kernel) ?_
    exact j19 _ _ _ _ _ (lv_sub hl [0, 1, 2] rfl) hW hS hf
  refine lv_if_eq (tgt := 18) hx hb dX11_join_4 (by decide) (fun c13 => ?_) (fun c13 => ?_)
  · replace hf := hf.1 c13
    exact j18 _ _ _ _ (lv_sub hl [0, 1, 2] rfl) hW hS hf
  · replace hf := hf.2 c13
    refine lv_iload_n hx hb dX11_join_7 rfl (lv_at hl 2 rfl) ?_
    refine gm_ci (va_runS (As := [.int v2]) (rest := []) ⟨hx, hb, hml, hown, hts⟩ (m_X11_isOfEight l D cy tq _ Y _ _ _) (va_cwS 1 hts (good_S kw_1141 kw_1142 kw_1 kw_1143) rfl rfl rfl (by decide +kernel) ⟨Nat.le_of_ble_eq_true rfl, Nat.le_of_ble_eq_true rfl⟩) (gm_preS hK hW hC hS hA hf) rfl rfl hl.1 rfl (lv_room (Nat.le_of_ble_eq_true rfl)) dX11_join_8 ⟨Nat.le_of_ble_eq_true rfl, Nat.le_of_ble_eq_true rfl⟩) hW hS hA (fun r15 M14 H locs hW hS hf => ?_)
    refine lv_if_eq (tgt := 18) hx hb dX11_join_11 (by decide) (fun c16 => ?_) (fun c16 => ?_)
    · replace hf := hf.1 c16
      exact j18 _ _ _ _ (lv_sub hl [0, 1, 2] rfl) hW hS hf
    · replace hf := hf.2 c16
      refine lv_iconst (v := 1) hx hb dX11_join_14 (by decide +kernel) ?_
      refine lv_goto (tgt := 19) hx hb dX11_join_15 (by decide) ?_
      exact j19 _ _ _ _ _ (lv_sub hl [0, 1, 2] rfl) hW hS hf

abbrev rm_X11_leave : Room := { frames := 8, cells := 2, slots := 12, locals := 225 }
def f_X11_leave_19 (Y : Ly) (v0 : Nat) (v1 : Int32) (v2 : Int32) (Kn : Int32 → Mm → Prop) (Xn : String → Mm → Prop) (y3 : Int32) (M4 : Mm) : Prop :=
  f_X11_needArguments Y y3 M4 (fun M5 => (yK Y v0 = 11 ∧ (f_X11_needPower Y v0 M5 (fun M6 => (∃ b8 : Nat, mR M6 v0 12 = some b8 ∧ (yK Y b8 = 7 ∧ (f_X7_depart Y b8 v1 v2 M6 (fun r10 M9 => (Kn r10 M9)))))) Xn))) Xn
def f_X11_leave_18 (Y : Ly) (v0 : Nat) (v1 : Int32) (v2 : Int32) (Kn : Int32 → Mm → Prop) (Xn : String → Mm → Prop) (M12 : Mm) : Prop :=
  f_X11_leave_19 Y v0 v1 v2 Kn Xn 0 M12
def f_X11_leave (Y : Ly) (v0 : Nat) (v1 : Int32) (v2 : Int32) (M : Mm) (Kn : Int32 → Mm → Prop) (Xn : String → Mm → Prop) : Prop :=
  f_X11_isOfEight Y v1 M (fun r2 M1 => ((r2 = 0 → (f_X11_leave_18 Y v0 v1 v2 Kn Xn M1)) ∧ (¬ (r2 = 0) → (f_X11_isOfEight Y v2 M1 (fun r15 M14 => ((r15 = 0 → (f_X11_leave_18 Y v0 v1 v2 Kn Xn M14)) ∧ (¬ (r15 = 0) → (f_X11_leave_19 Y v0 v1 v2 Kn Xn 1 M14))))))))
set_option maxHeartbeats 4000000 in
set_option maxRecDepth 100000 in
theorem m_X11_leave (l : Launch) (hlt : l.stackTraces = false) (D : va_G) (cy : Cy) (tq sz : Nat) (Y : Ly) (v0 : Nat) (v1 : Int32) (v2 : Int32) (M : Mm) (Kn : Int32 → Mm → Prop) (Xn : String → Mm → Prop) : vx_Met l yX11_leave (Cond.code yX11_leave cX11_leave 3 (some .int) :: TT) rm_X11_leave (PcG D cy tq [.ref v0, .int v1, .int v2] sz Y M (f_X11_leave Y v0 v1 v2 M Kn Xn)) (va_Qi Kn (BG D cy (Am Y sz) Y) (Am Y sz)) (XX D cy (Am Y sz) Y Xn) 2 12 (Am Y sz) := by
  refine vx_ofW (cc := cX11_leave) (maxL := 3) (ret := (some .int)) (by decide) rfl ?_
  intro p e s m args below meth c s₁ B hml hno hv
  obtain ⟨hargs, hsz, hW, hK, hC, hf⟩ := hv
  subst hsz
  have hx := B.exec
  have hb := B.bytes
  have hr := B.returns
  have hts : ∀ w ∈ TT, w.before args s = true := fun w h => atoms_spec (ws := Cond.code yX11_leave cX11_leave 3 (some .int) :: TT) B.pre w (List.mem_cons_of_mem _ h)
  have hown : s.vm.findClass RX11 = some m.cls := findClass_of_methodNamed B.named
  have hlocks := B.notSynchronized
  replace hW := Wd_self (sz := s.heap.size) hW
  generalize hAe : Am Y s.heap.size = A at hW hC ⊢
  have hA : ∀ q : Nat, s.heap.size ≤ q → A q := fun q h => by rw [← hAe]; exact Or.inr h
  clear hAe
  have hS : va_S A s.heap s.heap [] := va_S.rf
  obtain ⟨ls, hE, hl⟩ := gm_entry m [.ref v0, .int v1, .int v2] (n := 3) hargs (Nat.le_of_ble_eq_true rfl)
  rw [hE]
  have hl : lv_has ls 3 [(0, .ref v0), (1, .int v1), (2, .int v2)] := hl
  show W p l e rm_X11_leave s m args below meth c s.heap [] 0 0 (vx_MQ below (va_Qi Kn (BG D cy A Y) A) (XX D cy A Y Xn) args s 2 12 A) (F0 m 0 ls [])
  unfold f_X11_leave at hf
  refine lv_iload_n hx hb dX11_leave_0 rfl (lv_at hl 1 rfl) ?_
  refine gm_ci (va_runS (As := [.int v1]) (rest := []) ⟨hx, hb, hml, hown, hts⟩ (m_X11_isOfEight l D cy tq _ Y _ _ _) (va_cwS 1 hts (good_S kw_1141 kw_1142 kw_1 kw_1143) rfl rfl rfl (by decide +kernel) ⟨Nat.le_of_ble_eq_true rfl, Nat.le_of_ble_eq_true rfl⟩) (gm_preS hK hW hC hS hA hf) rfl rfl hl.1 rfl (lv_room (Nat.le_of_ble_eq_true rfl)) dX11_leave_1 ⟨Nat.le_of_ble_eq_true rfl, Nat.le_of_ble_eq_true rfl⟩) hW hS hA (fun r2 M1 H locs hW hS hf => ?_)
  have j19 : ∀ (y3 : Int32) (M4 : Mm) (H : Heap) (locs : List Loc) (ls : Array Slot), lv_has ls 3 [(0, .ref v0), (1, .int v1), (2, .int v2)] → Wd D cy A Y M4 H → va_S A s.heap H locs → f_X11_leave_19 Y v0 v1 v2 Kn Xn y3 M4 → W p l e rm_X11_leave s m args below meth c H locs 0 0 (vx_MQ below (va_Qi Kn (BG D cy A Y) A) (XX D cy A Y Xn) args s 2 12 A) (F0 m 19 ls [.int y3]) := by
    intro y3 M4 H locs ls hl hW hS hf
    unfold f_X11_leave_19 at hf
    refine gx_cv (vx_runS (As := [.int y3]) (rest := []) ⟨hx, hb, hml, hown, hts⟩ (m_X11_needArguments l hlt D cy tq _ Y _ _ _ _) (va_cwS 1 hts (good_S kw_463 kw_464 kw_1 kw_465) rfl rfl rfl (by decide +kernel) ⟨Nat.le_of_ble_eq_true rfl, Nat.le_of_ble_eq_true rfl⟩) (gm_preS hK hW hC hS hA hf) rfl rfl hl.1 rfl (lv_room (Nat.le_of_ble_eq_true rfl)) dX11_leave_19 ⟨Nat.le_of_ble_eq_true rfl, Nat.le_of_ble_eq_true rfl⟩) hW hS hA (fun E M9 H locs ce q9 hW hS hf h1 h2 h3 => gx_out hno hlocks hW hS hf h1 h2 h3 (Nat.le_of_ble_eq_true rfl) (Nat.le_of_ble_eq_true rfl)) (fun M5 H locs hW hS hf => ?_)
    refine lv_aload_n hx hb dX11_leave_22 rfl (lv_at hl 0 rfl) ?_
    obtain ⟨k7, hf⟩ := hf
    refine gx_cv (vx_runV (As := []) (rest := []) ⟨hx, hb, hml, hown, hts⟩ (m_X11_needPower l hlt D cy tq _ Y _ _ _ _) (cwV 0 hts (good_V kw_842 kw_843 kw_1794 kw_1 kw_844) rfl rfl rfl (by decide +kernel) ⟨Nat.le_of_ble_eq_true rfl, Nat.le_of_ble_eq_true rfl⟩) (gm_preV hK hW hC hS hA k7 (by decide) (q := (RX11, TX11, 13)) rfl rfl hf) rfl rfl hl.1 rfl (lv_room (Nat.le_of_ble_eq_true rfl)) dX11_leave_23 ⟨Nat.le_of_ble_eq_true rfl, Nat.le_of_ble_eq_true rfl⟩) hW hS hA (fun E M9 H locs ce q9 hW hS hf h1 h2 h3 => gx_out hno hlocks hW hS hf h1 h2 h3 (Nat.le_of_ble_eq_true rfl) (Nat.le_of_ble_eq_true rfl)) (fun M6 H locs hW hS hf => ?_)
    refine lv_aload_n hx hb dX11_leave_26 rfl (lv_at hl 0 rfl) ?_
    obtain ⟨b8, hb8, hf⟩ := hf
    refine gm_getR (C := RX11) (T := TX11) (N := 13) (j := 12) hx hb hts inT_11 hown hK hW k7 (by decide) rfl (by decide) rfl (hts _ kw_306) rfl dX11_leave_27 hb8 ?_
    refine lv_iload_n hx hb dX11_leave_30 rfl (lv_at hl 1 rfl) ?_
    refine lv_iload_n hx hb dX11_leave_31 rfl (lv_at hl 2 rfl) ?_
    obtain ⟨k11, hf⟩ := hf
    refine gm_ci (va_runV (As := [.int v1, .int v2]) (rest := []) ⟨hx, hb, hml, hown, hts⟩ (m_X7_depart l D cy tq _ Y _ _ _ _ _) (cwV 2 hts (good_V kw_1177 kw_1178 kw_1179 kw_11 kw_1180) rfl rfl rfl (by decide +kernel) ⟨Nat.le_of_ble_eq_true rfl, Nat.le_of_ble_eq_true rfl⟩) (gm_preV hK hW hC hS hA k11 (by decide) (q := (RX7, TX7, 9)) rfl rfl hf) rfl rfl hl.1 rfl (lv_room (Nat.le_of_ble_eq_true rfl)) dX11_leave_32 ⟨Nat.le_of_ble_eq_true rfl, Nat.le_of_ble_eq_true rfl⟩) hW hS hA (fun r10 M9 H locs hW hS hf => ?_)
    exact vx_ret (gm_iret hx hb hr hlocks hW hS hf dX11_leave_35)
  have j18 : ∀ (M12 : Mm) (H : Heap) (locs : List Loc) (ls : Array Slot), lv_has ls 3 [(0, .ref v0), (1, .int v1), (2, .int v2)] → Wd D cy A Y M12 H → va_S A s.heap H locs → f_X11_leave_18 Y v0 v1 v2 Kn Xn M12 → W p l e rm_X11_leave s m args below meth c H locs 0 0 (vx_MQ below (va_Qi Kn (BG D cy A Y) A) (XX D cy A Y Xn) args s 2 12 A) (F0 m 18 ls []) := by
    intro M12 H locs ls hl hW hS hf
    unfold f_X11_leave_18 at hf
    refine lv_iconst (v := 0) hx hb dX11_leave_18 (by decide +kernel) ?_
    exact j19 _ _ _ _ _ (lv_sub hl [0, 1, 2] rfl) hW hS hf
  refine lv_if_eq (tgt := 18) hx hb dX11_leave_4 (by decide) (fun c13 => ?_) (fun c13 => ?_)
  · replace hf := hf.1 c13
    exact j18 _ _ _ _ (lv_sub hl [0, 1, 2] rfl) hW hS hf
  · replace hf := hf.2 c13
    refine lv_iload_n hx hb dX11_leave_7 rfl (lv_at hl 2 rfl) ?_
    refine gm_ci (va_runS (As := [.int v2]) (rest := []) ⟨hx, hb, hml, hown, hts⟩ (m_X11_isOfEight l D cy tq _ Y _ _ _) (va_cwS 1 hts (good_S kw_1141 kw_1142 kw_1 kw_1143) rfl rfl rfl (by decide +kernel) ⟨Nat.le_of_ble_eq_true rfl, Nat.le_of_ble_eq_true rfl⟩) (gm_preS hK hW hC hS hA hf) rfl rfl hl.1 rfl (lv_room (Nat.le_of_ble_eq_true rfl)) dX11_leave_8 ⟨Nat.le_of_ble_eq_true rfl, Nat.le_of_ble_eq_true rfl⟩) hW hS hA (fun r15 M14 H locs hW hS hf => ?_)
    refine lv_if_eq (tgt := 18) hx hb dX11_leave_11 (by decide) (fun c16 => ?_) (fun c16 => ?_)
    · replace hf := hf.1 c16
      exact j18 _ _ _ _ (lv_sub hl [0, 1, 2] rfl) hW hS hf
    · replace hf := hf.2 c16
      refine lv_iconst (v := 1) hx hb dX11_leave_14 (by decide +kernel) ?_
      refine lv_goto (tgt := 19) hx hb dX11_leave_15 (by decide) ?_
      exact j19 _ _ _ _ _ (lv_sub hl [0, 1, 2] rfl) hW hS hf

abbrev rm_X11_beat : Room := { frames := 8, cells := 2, slots := 12, locals := 149 }
def f_X11_beat_19 (Y : Ly) (v0 : Nat) (v1 : Int32) (v2 : Int32) (v3 : Int32) (Kn : Int32 → Mm → Prop) (Xn : String → Mm → Prop) (y3 : Int32) (M4 : Mm) : Prop :=
  f_X11_needArguments Y y3 M4 (fun M5 => (yK Y v0 = 11 ∧ (f_X11_needPower Y v0 M5 (fun M6 => (∃ b8 : Nat, mR M6 v0 12 = some b8 ∧ (yK Y b8 = 7 ∧ (f_X7_hear Y b8 v1 v2 v3 M6 (fun r10 M9 => (Kn r10 M9)))))) Xn))) Xn
def f_X11_beat_18 (Y : Ly) (v0 : Nat) (v1 : Int32) (v2 : Int32) (v3 : Int32) (Kn : Int32 → Mm → Prop) (Xn : String → Mm → Prop) (M12 : Mm) : Prop :=
  f_X11_beat_19 Y v0 v1 v2 v3 Kn Xn 0 M12
def f_X11_beat (Y : Ly) (v0 : Nat) (v1 : Int32) (v2 : Int32) (v3 : Int32) (M : Mm) (Kn : Int32 → Mm → Prop) (Xn : String → Mm → Prop) : Prop :=
  f_X11_isOfEight Y v1 M (fun r2 M1 => ((r2 = 0 → (f_X11_beat_18 Y v0 v1 v2 v3 Kn Xn M1)) ∧ (¬ (r2 = 0) → (f_X11_isOfEight Y v2 M1 (fun r15 M14 => ((r15 = 0 → (f_X11_beat_18 Y v0 v1 v2 v3 Kn Xn M14)) ∧ (¬ (r15 = 0) → (f_X11_beat_19 Y v0 v1 v2 v3 Kn Xn 1 M14))))))))
set_option maxHeartbeats 4000000 in
set_option maxRecDepth 100000 in
theorem m_X11_beat (l : Launch) (hlt : l.stackTraces = false) (D : va_G) (cy : Cy) (tq sz : Nat) (Y : Ly) (v0 : Nat) (v1 : Int32) (v2 : Int32) (v3 : Int32) (M : Mm) (Kn : Int32 → Mm → Prop) (Xn : String → Mm → Prop) : vx_Met l yX11_beat (Cond.code yX11_beat cX11_beat 4 (some .int) :: TT) rm_X11_beat (PcG D cy tq [.ref v0, .int v1, .int v2, .int v3] sz Y M (f_X11_beat Y v0 v1 v2 v3 M Kn Xn)) (va_Qi Kn (BG D cy (Am Y sz) Y) (Am Y sz)) (XX D cy (Am Y sz) Y Xn) 2 12 (Am Y sz) := by
  refine vx_ofW (cc := cX11_beat) (maxL := 4) (ret := (some .int)) (by decide) rfl ?_
  intro p e s m args below meth c s₁ B hml hno hv
  obtain ⟨hargs, hsz, hW, hK, hC, hf⟩ := hv
  subst hsz
  have hx := B.exec
  have hb := B.bytes
  have hr := B.returns
  have hts : ∀ w ∈ TT, w.before args s = true := fun w h => atoms_spec (ws := Cond.code yX11_beat cX11_beat 4 (some .int) :: TT) B.pre w (List.mem_cons_of_mem _ h)
  have hown : s.vm.findClass RX11 = some m.cls := findClass_of_methodNamed B.named
  have hlocks := B.notSynchronized
  replace hW := Wd_self (sz := s.heap.size) hW
  generalize hAe : Am Y s.heap.size = A at hW hC ⊢
  have hA : ∀ q : Nat, s.heap.size ≤ q → A q := fun q h => by rw [← hAe]; exact Or.inr h
  clear hAe
  have hS : va_S A s.heap s.heap [] := va_S.rf
  obtain ⟨ls, hE, hl⟩ := gm_entry m [.ref v0, .int v1, .int v2, .int v3] (n := 4) hargs (Nat.le_of_ble_eq_true rfl)
  rw [hE]
  have hl : lv_has ls 4 [(0, .ref v0), (1, .int v1), (2, .int v2), (3, .int v3)] := hl
  show W p l e rm_X11_beat s m args below meth c s.heap [] 0 0 (vx_MQ below (va_Qi Kn (BG D cy A Y) A) (XX D cy A Y Xn) args s 2 12 A) (F0 m 0 ls [])
  unfold f_X11_beat at hf
  refine lv_iload_n hx hb dX11_beat_0 rfl (lv_at hl 1 rfl) ?_
  refine gm_ci (va_runS (As := [.int v1]) (rest := []) ⟨hx, hb, hml, hown, hts⟩ (m_X11_isOfEight l D cy tq _ Y _ _ _) (va_cwS 1 hts (good_S kw_1141 kw_1142 kw_1 kw_1143) rfl rfl rfl (by decide +kernel) ⟨Nat.le_of_ble_eq_true rfl, Nat.le_of_ble_eq_true rfl⟩) (gm_preS hK hW hC hS hA hf) rfl rfl hl.1 rfl (lv_room (Nat.le_of_ble_eq_true rfl)) dX11_beat_1 ⟨Nat.le_of_ble_eq_true rfl, Nat.le_of_ble_eq_true rfl⟩) hW hS hA (fun r2 M1 H locs hW hS hf => ?_)
  have j19 : ∀ (y3 : Int32) (M4 : Mm) (H : Heap) (locs : List Loc) (ls : Array Slot), lv_has ls 4 [(0, .ref v0), (1, .int v1), (2, .int v2), (3, .int v3)] → Wd D cy A Y M4 H → va_S A s.heap H locs → f_X11_beat_19 Y v0 v1 v2 v3 Kn Xn y3 M4 → W p l e rm_X11_beat s m args below meth c H locs 0 0 (vx_MQ below (va_Qi Kn (BG D cy A Y) A) (XX D cy A Y Xn) args s 2 12 A) (F0 m 19 ls [.int y3]) := by
    intro y3 M4 H locs ls hl hW hS hf
    unfold f_X11_beat_19 at hf
    refine gx_cv (vx_runS (As := [.int y3]) (rest := []) ⟨hx, hb, hml, hown, hts⟩ (m_X11_needArguments l hlt D cy tq _ Y _ _ _ _) (va_cwS 1 hts (good_S kw_463 kw_464 kw_1 kw_465) rfl rfl rfl (by decide +kernel) ⟨Nat.le_of_ble_eq_true rfl, Nat.le_of_ble_eq_true rfl⟩) (gm_preS hK hW hC hS hA hf) rfl rfl hl.1 rfl (lv_room (Nat.le_of_ble_eq_true rfl)) dX11_beat_19 ⟨Nat.le_of_ble_eq_true rfl, Nat.le_of_ble_eq_true rfl⟩) hW hS hA (fun E M9 H locs ce q9 hW hS hf h1 h2 h3 => gx_out hno hlocks hW hS hf h1 h2 h3 (Nat.le_of_ble_eq_true rfl) (Nat.le_of_ble_eq_true rfl)) (fun M5 H locs hW hS hf => ?_)
    refine lv_aload_n hx hb dX11_beat_22 rfl (lv_at hl 0 rfl) ?_
    obtain ⟨k7, hf⟩ := hf
    refine gx_cv (vx_runV (As := []) (rest := []) ⟨hx, hb, hml, hown, hts⟩ (m_X11_needPower l hlt D cy tq _ Y _ _ _ _) (cwV 0 hts (good_V kw_842 kw_843 kw_1794 kw_1 kw_844) rfl rfl rfl (by decide +kernel) ⟨Nat.le_of_ble_eq_true rfl, Nat.le_of_ble_eq_true rfl⟩) (gm_preV hK hW hC hS hA k7 (by decide) (q := (RX11, TX11, 13)) rfl rfl hf) rfl rfl hl.1 rfl (lv_room (Nat.le_of_ble_eq_true rfl)) dX11_beat_23 ⟨Nat.le_of_ble_eq_true rfl, Nat.le_of_ble_eq_true rfl⟩) hW hS hA (fun E M9 H locs ce q9 hW hS hf h1 h2 h3 => gx_out hno hlocks hW hS hf h1 h2 h3 (Nat.le_of_ble_eq_true rfl) (Nat.le_of_ble_eq_true rfl)) (fun M6 H locs hW hS hf => ?_)
    refine lv_aload_n hx hb dX11_beat_26 rfl (lv_at hl 0 rfl) ?_
    obtain ⟨b8, hb8, hf⟩ := hf
    refine gm_getR (C := RX11) (T := TX11) (N := 13) (j := 12) hx hb hts inT_11 hown hK hW k7 (by decide) rfl (by decide) rfl (hts _ kw_306) rfl dX11_beat_27 hb8 ?_
    refine lv_iload_n hx hb dX11_beat_30 rfl (lv_at hl 1 rfl) ?_
    refine lv_iload_n hx hb dX11_beat_31 rfl (lv_at hl 2 rfl) ?_
    refine lv_iload_n hx hb dX11_beat_32 rfl (lv_at hl 3 rfl) ?_
    obtain ⟨k11, hf⟩ := hf
    refine gm_ci (va_runV (As := [.int v1, .int v2, .int v3]) (rest := []) ⟨hx, hb, hml, hown, hts⟩ (m_X7_hear l D cy tq _ Y _ _ _ _ _ _) (cwV 3 hts (good_V kw_1191 kw_1192 kw_1193 kw_11 kw_1194) rfl rfl rfl (by decide +kernel) ⟨Nat.le_of_ble_eq_true rfl, Nat.le_of_ble_eq_true rfl⟩) (gm_preV hK hW hC hS hA k11 (by decide) (q := (RX7, TX7, 9)) rfl rfl hf) rfl rfl hl.1 rfl (lv_room (Nat.le_of_ble_eq_true rfl)) dX11_beat_33 ⟨Nat.le_of_ble_eq_true rfl, Nat.le_of_ble_eq_true rfl⟩) hW hS hA (fun r10 M9 H locs hW hS hf => ?_)
    exact vx_ret (gm_iret hx hb hr hlocks hW hS hf dX11_beat_36)
  have j18 : ∀ (M12 : Mm) (H : Heap) (locs : List Loc) (ls : Array Slot), lv_has ls 4 [(0, .ref v0), (1, .int v1), (2, .int v2), (3, .int v3)] → Wd D cy A Y M12 H → va_S A s.heap H locs → f_X11_beat_18 Y v0 v1 v2 v3 Kn Xn M12 → W p l e rm_X11_beat s m args below meth c H locs 0 0 (vx_MQ below (va_Qi Kn (BG D cy A Y) A) (XX D cy A Y Xn) args s 2 12 A) (F0 m 18 ls []) := by
    intro M12 H locs ls hl hW hS hf
    unfold f_X11_beat_18 at hf
    refine lv_iconst (v := 0) hx hb dX11_beat_18 (by decide +kernel) ?_
    exact j19 _ _ _ _ _ (lv_sub hl [0, 1, 2, 3] rfl) hW hS hf
  refine lv_if_eq (tgt := 18) hx hb dX11_beat_4 (by decide) (fun c13 => ?_) (fun c13 => ?_)
  · replace hf := hf.1 c13
    exact j18 _ _ _ _ (lv_sub hl [0, 1, 2, 3] rfl) hW hS hf
  · replace hf := hf.2 c13
    refine lv_iload_n hx hb dX11_beat_7 rfl (lv_at hl 2 rfl) ?_
    refine gm_ci (va_runS (As := [.int v2]) (rest := []) ⟨hx, hb, hml, hown, hts⟩ (m_X11_isOfEight l D cy tq _ Y _ _ _) (va_cwS 1 hts (good_S kw_1141 kw_1142 kw_1 kw_1143) rfl rfl rfl (by decide +kernel) ⟨Nat.le_of_ble_eq_true rfl, Nat.le_of_ble_eq_true rfl⟩) (gm_preS hK hW hC hS hA hf) rfl rfl hl.1 rfl (lv_room (Nat.le_of_ble_eq_true rfl)) dX11_beat_8 ⟨Nat.le_of_ble_eq_true rfl, Nat.le_of_ble_eq_true rfl⟩) hW hS hA (fun r15 M14 H locs hW hS hf => ?_)
    refine lv_if_eq (tgt := 18) hx hb dX11_beat_11 (by decide) (fun c16 => ?_) (fun c16 => ?_)
    · replace hf := hf.1 c16
      exact j18 _ _ _ _ (lv_sub hl [0, 1, 2, 3] rfl) hW hS hf
    · replace hf := hf.2 c16
      refine lv_iconst (v := 1) hx hb dX11_beat_14 (by decide +kernel) ?_
      refine lv_goto (tgt := 19) hx hb dX11_beat_15 (by decide) ?_
      exact j19 _ _ _ _ _ (lv_sub hl [0, 1, 2, 3] rfl) hW hS hf

abbrev rm_X11_commit : Room := { frames := 8, cells := 2, slots := 12, locals := 205 }
def f_X11_commit_28 (Y : Ly) (v0 : Nat) (v1 : Int32) (v2 : Int32) (v3 : Int32) (v4 : Int32) (v5 : Int64) (Kn : Int32 → Mm → Prop) (Xn : String → Mm → Prop) (y3 : Int32) (M4 : Mm) : Prop :=
  f_X11_needArguments Y y3 M4 (fun M5 => (yK Y v0 = 11 ∧ (f_X11_needPower Y v0 M5 (fun M6 => (∃ b8 : Nat, mR M6 v0 12 = some b8 ∧ (yK Y b8 = 7 ∧ (f_X7_refusal Y b8 v1 v2 v3 M6 (fun r10 M9 => ((r10 = 0 → (∃ b13 : Nat, mR M9 v0 12 = some b13 ∧ (yK Y b13 = 7 ∧ (f_X7_commitOffset Y b13 v1 v2 v4 v5 M9 (fun r15 M14 => (Kn r15 M14)))))) ∧ (¬ (r10 = 0) → (Kn r10 M9)))))))) Xn))) Xn
def f_X11_commit_27 (Y : Ly) (v0 : Nat) (v1 : Int32) (v2 : Int32) (v3 : Int32) (v4 : Int32) (v5 : Int64) (Kn : Int32 → Mm → Prop) (Xn : String → Mm → Prop) (M17 : Mm) : Prop :=
  f_X11_commit_28 Y v0 v1 v2 v3 v4 v5 Kn Xn 0 M17
def f_X11_commit (Y : Ly) (v0 : Nat) (v1 : Int32) (v2 : Int32) (v3 : Int32) (v4 : Int32) (v5 : Int64) (M : Mm) (Kn : Int32 → Mm → Prop) (Xn : String → Mm → Prop) : Prop :=
  f_X11_isOfEight Y v1 M (fun r2 M1 => ((r2 = 0 → (f_X11_commit_27 Y v0 v1 v2 v3 v4 v5 Kn Xn M1)) ∧ (¬ (r2 = 0) → (f_X11_isOfEight Y v2 M1 (fun r20 M19 => ((r20 = 0 → (f_X11_commit_27 Y v0 v1 v2 v3 v4 v5 Kn Xn M19)) ∧ (¬ (r20 = 0) → (yK Y v0 = 11 ∧ (f_X11_isForProducers Y v0 v4 M19 (fun r23 M22 => ((r23 = 0 → (f_X11_commit_27 Y v0 v1 v2 v3 v4 v5 Kn Xn M22)) ∧ (¬ (r23 = 0) → (f_X11_commit_28 Y v0 v1 v2 v3 v4 v5 Kn Xn 1 M22)))))))))))))
set_option maxHeartbeats 4000000 in
set_option maxRecDepth 100000 in
theorem m_X11_commit (l : Launch) (hlt : l.stackTraces = false) (D : va_G) (cy : Cy) (tq sz : Nat) (Y : Ly) (v0 : Nat) (v1 : Int32) (v2 : Int32) (v3 : Int32) (v4 : Int32) (v5 : Int64) (M : Mm) (Kn : Int32 → Mm → Prop) (Xn : String → Mm → Prop) : vx_Met l yX11_commit (Cond.code yX11_commit cX11_commit 8 (some .int) :: TT) rm_X11_commit (PcG D cy tq [.ref v0, .int v1, .int v2, .int v3, .int v4, .long v5] sz Y M (f_X11_commit Y v0 v1 v2 v3 v4 v5 M Kn Xn)) (va_Qi Kn (BG D cy (Am Y sz) Y) (Am Y sz)) (XX D cy (Am Y sz) Y Xn) 2 12 (Am Y sz) := by
  refine vx_ofW (cc := cX11_commit) (maxL := 8) (ret := (some .int)) (by decide) rfl ?_
  intro p e s m args below meth c s₁ B hml hno hv
  obtain ⟨hargs, hsz, hW, hK, hC, hf⟩ := hv
  subst hsz
  have hx := B.exec
  have hb := B.bytes
  have hr := B.returns
  have hts : ∀ w ∈ TT, w.before args s = true := fun w h => atoms_spec (ws := Cond.code yX11_commit cX11_commit 8 (some .int) :: TT) B.pre w (List.mem_cons_of_mem _ h)
  have hown : s.vm.findClass RX11 = some m.cls := findClass_of_methodNamed B.named
  have hlocks := B.notSynchronized
  replace hW := Wd_self (sz := s.heap.size) hW
  generalize hAe : Am Y s.heap.size = A at hW hC ⊢
  have hA : ∀ q : Nat, s.heap.size ≤ q → A q := fun q h => by rw [← hAe]; exact Or.inr h
  clear hAe
  have hS : va_S A s.heap s.heap [] := va_S.rf
  obtain ⟨ls, hE, hl⟩ := gm_entry m [.ref v0, .int v1, .int v2, .int v3, .int v4, .long v5] (n := 8) hargs (Nat.le_of_ble_eq_true rfl)
  rw [hE]
  have hl : lv_has ls 8 [(0, .ref v0), (1, .int v1), (2, .int v2), (3, .int v3), (4, .int v4), (5, .long v5)] := hl
  show W p l e rm_X11_commit s m args below meth c s.heap [] 0 0 (vx_MQ below (va_Qi Kn (BG D cy A Y) A) (XX D cy A Y Xn) args s 2 12 A) (F0 m 0 ls [])
  unfold f_X11_commit at hf
  refine lv_iload_n hx hb dX11_commit_0 rfl (lv_at hl 1 rfl) ?_
  refine gm_ci (va_runS (As := [.int v1]) (rest := []) ⟨hx, hb, hml, hown, hts⟩ (m_X11_isOfEight l D cy tq _ Y _ _ _) (va_cwS 1 hts (good_S kw_1141 kw_1142 kw_1 kw_1143) rfl rfl rfl (by decide +kernel) ⟨Nat.le_of_ble_eq_true rfl, Nat.le_of_ble_eq_true rfl⟩) (gm_preS hK hW hC hS hA hf) rfl rfl hl.1 rfl (lv_room (Nat.le_of_ble_eq_true rfl)) dX11_commit_1 ⟨Nat.le_of_ble_eq_true rfl, Nat.le_of_ble_eq_true rfl⟩) hW hS hA (fun r2 M1 H locs hW hS hf => ?_)
  have j28 : ∀ (y3 : Int32) (M4 : Mm) (H : Heap) (locs : List Loc) (ls : Array Slot), lv_has ls 8 [(0, .ref v0), (1, .int v1), (2, .int v2), (3, .int v3), (4, .int v4), (5, .long v5)] → Wd D cy A Y M4 H → va_S A s.heap H locs → f_X11_commit_28 Y v0 v1 v2 v3 v4 v5 Kn Xn y3 M4 → W p l e rm_X11_commit s m args below meth c H locs 0 0 (vx_MQ below (va_Qi Kn (BG D cy A Y) A) (XX D cy A Y Xn) args s 2 12 A) (F0 m 28 ls [.int y3]) := by
    intro y3 M4 H locs ls hl hW hS hf
    unfold f_X11_commit_28 at hf
    refine gx_cv (vx_runS (As := [.int y3]) (rest := []) ⟨hx, hb, hml, hown, hts⟩ (m_X11_needArguments l hlt D cy tq _ Y _ _ _ _) (va_cwS 1 hts (good_S kw_463 kw_464 kw_1 kw_465) rfl rfl rfl (by decide +kernel) ⟨Nat.le_of_ble_eq_true rfl, Nat.le_of_ble_eq_true rfl⟩) (gm_preS hK hW hC hS hA hf) rfl rfl hl.1 rfl (lv_room (Nat.le_of_ble_eq_true rfl)) dX11_commit_28 ⟨Nat.le_of_ble_eq_true rfl, Nat.le_of_ble_eq_true rfl⟩) hW hS hA (fun E M9 H locs ce q9 hW hS hf h1 h2 h3 => gx_out hno hlocks hW hS hf h1 h2 h3 (Nat.le_of_ble_eq_true rfl) (Nat.le_of_ble_eq_true rfl)) (fun M5 H locs hW hS hf => ?_)
    refine lv_aload_n hx hb dX11_commit_31 rfl (lv_at hl 0 rfl) ?_
    obtain ⟨k7, hf⟩ := hf
    refine gx_cv (vx_runV (As := []) (rest := []) ⟨hx, hb, hml, hown, hts⟩ (m_X11_needPower l hlt D cy tq _ Y _ _ _ _) (cwV 0 hts (good_V kw_842 kw_843 kw_1794 kw_1 kw_844) rfl rfl rfl (by decide +kernel) ⟨Nat.le_of_ble_eq_true rfl, Nat.le_of_ble_eq_true rfl⟩) (gm_preV hK hW hC hS hA k7 (by decide) (q := (RX11, TX11, 13)) rfl rfl hf) rfl rfl hl.1 rfl (lv_room (Nat.le_of_ble_eq_true rfl)) dX11_commit_32 ⟨Nat.le_of_ble_eq_true rfl, Nat.le_of_ble_eq_true rfl⟩) hW hS hA (fun E M9 H locs ce q9 hW hS hf h1 h2 h3 => gx_out hno hlocks hW hS hf h1 h2 h3 (Nat.le_of_ble_eq_true rfl) (Nat.le_of_ble_eq_true rfl)) (fun M6 H locs hW hS hf => ?_)
    refine lv_aload_n hx hb dX11_commit_35 rfl (lv_at hl 0 rfl) ?_
    obtain ⟨b8, hb8, hf⟩ := hf
    refine gm_getR (C := RX11) (T := TX11) (N := 13) (j := 12) hx hb hts inT_11 hown hK hW k7 (by decide) rfl (by decide) rfl (hts _ kw_306) rfl dX11_commit_36 hb8 ?_
    refine lv_iload_n hx hb dX11_commit_39 rfl (lv_at hl 1 rfl) ?_
    refine lv_iload_n hx hb dX11_commit_40 rfl (lv_at hl 2 rfl) ?_
    refine lv_iload_n hx hb dX11_commit_41 rfl (lv_at hl 3 rfl) ?_
    obtain ⟨k11, hf⟩ := hf
    refine gm_ci (va_runV (As := [.int v1, .int v2, .int v3]) (rest := []) ⟨hx, hb, hml, hown, hts⟩ (m_X7_refusal l D cy tq _ Y _ _ _ _ _ _) (cwV 3 hts (good_V kw_1206 kw_1196 kw_1197 kw_11 kw_1198) rfl rfl rfl (by decide +kernel) ⟨Nat.le_of_ble_eq_true rfl, Nat.le_of_ble_eq_true rfl⟩) (gm_preV hK hW hC hS hA k11 (by decide) (q := (RX7, TX7, 9)) rfl rfl hf) rfl rfl hl.1 rfl (lv_room (Nat.le_of_ble_eq_true rfl)) dX11_commit_42 ⟨Nat.le_of_ble_eq_true rfl, Nat.le_of_ble_eq_true rfl⟩) hW hS hA (fun r10 M9 H locs hW hS hf => ?_)
    refine lv_istore (lv' := [(7, .int r10), (0, .ref v0), (1, .int v1), (2, .int v2), (3, .int v3), (4, .int v4), (5, .long v5)]) hx hb dX11_commit_45 hl (by decide) rfl (fun ls hl => ?_)
    refine lv_iload hx hb dX11_commit_47 (lv_at hl 0 rfl) ?_
    refine lv_if_eq (tgt := 55) hx hb dX11_commit_49 (by decide) (fun c12 => ?_) (fun c12 => ?_)
    · replace hf := hf.1 c12
      refine lv_aload_n hx hb dX11_commit_55 rfl (lv_at hl 1 rfl) ?_
      obtain ⟨b13, hb13, hf⟩ := hf
      refine gm_getR (C := RX11) (T := TX11) (N := 13) (j := 12) hx hb hts inT_11 hown hK hW k7 (by decide) rfl (by decide) rfl (hts _ kw_306) rfl dX11_commit_56 hb13 ?_
      refine lv_iload_n hx hb dX11_commit_59 rfl (lv_at hl 2 rfl) ?_
      refine lv_iload_n hx hb dX11_commit_60 rfl (lv_at hl 3 rfl) ?_
      refine lv_iload hx hb dX11_commit_61 (lv_at hl 5 rfl) ?_
      refine lv_lload hx hb dX11_commit_63 (lv_at hl 6 rfl) ?_
      obtain ⟨k16, hf⟩ := hf
      refine gm_ci (va_runV (As := [.int v1, .int v2, .int v4, .long v5]) (rest := []) ⟨hx, hb, hml, hown, hts⟩ (m_X7_commitOffset l D cy tq _ Y _ _ _ _ _ _ _) (cwV 4 hts (good_V kw_1207 kw_1208 kw_1209 kw_11 kw_1210) rfl rfl rfl (by decide +kernel) ⟨Nat.le_of_ble_eq_true rfl, Nat.le_of_ble_eq_true rfl⟩) (gm_preV hK hW hC hS hA k16 (by decide) (q := (RX7, TX7, 9)) rfl rfl hf) rfl rfl hl.1 rfl (lv_room (Nat.le_of_ble_eq_true rfl)) dX11_commit_65 ⟨Nat.le_of_ble_eq_true rfl, Nat.le_of_ble_eq_true rfl⟩) hW hS hA (fun r15 M14 H locs hW hS hf => ?_)
      exact vx_ret (gm_iret hx hb hr hlocks hW hS hf dX11_commit_68)
    · replace hf := hf.2 c12
      refine lv_iload hx hb dX11_commit_52 (lv_at hl 0 rfl) ?_
      exact vx_ret (gm_iret hx hb hr hlocks hW hS hf dX11_commit_54)
  have j27 : ∀ (M17 : Mm) (H : Heap) (locs : List Loc) (ls : Array Slot), lv_has ls 8 [(0, .ref v0), (1, .int v1), (2, .int v2), (3, .int v3), (4, .int v4), (5, .long v5)] → Wd D cy A Y M17 H → va_S A s.heap H locs → f_X11_commit_27 Y v0 v1 v2 v3 v4 v5 Kn Xn M17 → W p l e rm_X11_commit s m args below meth c H locs 0 0 (vx_MQ below (va_Qi Kn (BG D cy A Y) A) (XX D cy A Y Xn) args s 2 12 A) (F0 m 27 ls []) := by
    intro M17 H locs ls hl hW hS hf
    unfold f_X11_commit_27 at hf
    refine lv_iconst (v := 0) hx hb dX11_commit_27 (by decide +kernel) ?_
    exact j28 _ _ _ _ _ (lv_sub hl [0, 1, 2, 3, 4, 5] rfl) hW hS hf
  refine lv_if_eq (tgt := 27) hx hb dX11_commit_4 (by decide) (fun c18 => ?_) (fun c18 => ?_)
  · replace hf := hf.1 c18
    exact j27 _ _ _ _ (lv_sub hl [0, 1, 2, 3, 4, 5] rfl) hW hS hf
  · replace hf := hf.2 c18
    refine lv_iload_n hx hb dX11_commit_7 rfl (lv_at hl 2 rfl) ?_
    refine gm_ci (va_runS (As := [.int v2]) (rest := []) ⟨hx, hb, hml, hown, hts⟩ (m_X11_isOfEight l D cy tq _ Y _ _ _) (va_cwS 1 hts (good_S kw_1141 kw_1142 kw_1 kw_1143) rfl rfl rfl (by decide +kernel) ⟨Nat.le_of_ble_eq_true rfl, Nat.le_of_ble_eq_true rfl⟩) (gm_preS hK hW hC hS hA hf) rfl rfl hl.1 rfl (lv_room (Nat.le_of_ble_eq_true rfl)) dX11_commit_8 ⟨Nat.le_of_ble_eq_true rfl, Nat.le_of_ble_eq_true rfl⟩) hW hS hA (fun r20 M19 H locs hW hS hf => ?_)
    refine lv_if_eq (tgt := 27) hx hb dX11_commit_11 (by decide) (fun c21 => ?_) (fun c21 => ?_)
    · replace hf := hf.1 c21
      exact j27 _ _ _ _ (lv_sub hl [0, 1, 2, 3, 4, 5] rfl) hW hS hf
    · replace hf := hf.2 c21
      refine lv_aload_n hx hb dX11_commit_14 rfl (lv_at hl 0 rfl) ?_
      refine lv_iload hx hb dX11_commit_15 (lv_at hl 4 rfl) ?_
      obtain ⟨k24, hf⟩ := hf
      refine gm_ci (va_runV (As := [.int v4]) (rest := []) ⟨hx, hb, hml, hown, hts⟩ (m_X11_isForProducers l D cy tq _ Y _ _ _ _) (cwV 1 hts (good_V kw_859 kw_860 kw_1795 kw_1 kw_861) rfl rfl rfl (by decide +kernel) ⟨Nat.le_of_ble_eq_true rfl, Nat.le_of_ble_eq_true rfl⟩) (gm_preV hK hW hC hS hA k24 (by decide) (q := (RX11, TX11, 13)) rfl rfl hf) rfl rfl hl.1 rfl (lv_room (Nat.le_of_ble_eq_true rfl)) dX11_commit_17 ⟨Nat.le_of_ble_eq_true rfl, Nat.le_of_ble_eq_true rfl⟩) hW hS hA (fun r23 M22 H locs hW hS hf => ?_)
      refine lv_if_eq (tgt := 27) hx hb dX11_commit_20 (by decide) (fun c25 => ?_) (fun c25 => ?_)
      · replace hf := hf.1 c25
        exact j27 _ _ _ _ (lv_sub hl [0, 1, 2, 3, 4, 5] rfl) hW hS hf
      · replace hf := hf.2 c25
        refine lv_iconst (v := 1) hx hb dX11_commit_23 (by decide +kernel) ?_
        refine lv_goto (tgt := 28) hx hb dX11_commit_24 (by decide) ?_
        exact j28 _ _ _ _ _ (lv_sub hl [0, 1, 2, 3, 4, 5] rfl) hW hS hf

abbrev rm_X11_committed : Room := { frames := 8, cells := 2, slots := 12, locals := 154 }
def f_X11_committed_20 (Y : Ly) (v0 : Nat) (v1 : Int32) (v2 : Int32) (Kn : Int64 → Mm → Prop) (Xn : String → Mm → Prop) (y3 : Int32) (M4 : Mm) : Prop :=
  f_X11_needArguments Y y3 M4 (fun M5 => (yK Y v0 = 11 ∧ (f_X11_needPower Y v0 M5 (fun M6 => (∃ b8 : Nat, mR M6 v0 12 = some b8 ∧ (yK Y b8 = 7 ∧ (f_X7_latestNote Y b8 v1 v2 M6 (fun r10 M9 => (Kn r10 M9)))))) Xn))) Xn
def f_X11_committed_19 (Y : Ly) (v0 : Nat) (v1 : Int32) (v2 : Int32) (Kn : Int64 → Mm → Prop) (Xn : String → Mm → Prop) (M12 : Mm) : Prop :=
  f_X11_committed_20 Y v0 v1 v2 Kn Xn 0 M12
def f_X11_committed (Y : Ly) (v0 : Nat) (v1 : Int32) (v2 : Int32) (M : Mm) (Kn : Int64 → Mm → Prop) (Xn : String → Mm → Prop) : Prop :=
  f_X11_isOfEight Y v1 M (fun r2 M1 => ((r2 = 0 → (f_X11_committed_19 Y v0 v1 v2 Kn Xn M1)) ∧ (¬ (r2 = 0) → (yK Y v0 = 11 ∧ (f_X11_isForProducers Y v0 v2 M1 (fun r15 M14 => ((r15 = 0 → (f_X11_committed_19 Y v0 v1 v2 Kn Xn M14)) ∧ (¬ (r15 = 0) → (f_X11_committed_20 Y v0 v1 v2 Kn Xn 1 M14)))))))))
set_option maxHeartbeats 4000000 in
set_option maxRecDepth 100000 in
theorem m_X11_committed (l : Launch) (hlt : l.stackTraces = false) (D : va_G) (cy : Cy) (tq sz : Nat) (Y : Ly) (v0 : Nat) (v1 : Int32) (v2 : Int32) (M : Mm) (Kn : Int64 → Mm → Prop) (Xn : String → Mm → Prop) : vx_Met l yX11_committed (Cond.code yX11_committed cX11_committed 3 (some .long) :: TT) rm_X11_committed (PcG D cy tq [.ref v0, .int v1, .int v2] sz Y M (f_X11_committed Y v0 v1 v2 M Kn Xn)) (va_Ql Kn (BG D cy (Am Y sz) Y) (Am Y sz)) (XX D cy (Am Y sz) Y Xn) 2 12 (Am Y sz) := by
  refine vx_ofW (cc := cX11_committed) (maxL := 3) (ret := (some .long)) (by decide) rfl ?_
  intro p e s m args below meth c s₁ B hml hno hv
  obtain ⟨hargs, hsz, hW, hK, hC, hf⟩ := hv
  subst hsz
  have hx := B.exec
  have hb := B.bytes
  have hr := B.returns
  have hts : ∀ w ∈ TT, w.before args s = true := fun w h => atoms_spec (ws := Cond.code yX11_committed cX11_committed 3 (some .long) :: TT) B.pre w (List.mem_cons_of_mem _ h)
  have hown : s.vm.findClass RX11 = some m.cls := findClass_of_methodNamed B.named
  have hlocks := B.notSynchronized
  replace hW := Wd_self (sz := s.heap.size) hW
  generalize hAe : Am Y s.heap.size = A at hW hC ⊢
  have hA : ∀ q : Nat, s.heap.size ≤ q → A q := fun q h => by rw [← hAe]; exact Or.inr h
  clear hAe
  have hS : va_S A s.heap s.heap [] := va_S.rf
  obtain ⟨ls, hE, hl⟩ := gm_entry m [.ref v0, .int v1, .int v2] (n := 3) hargs (Nat.le_of_ble_eq_true rfl)
  rw [hE]
  have hl : lv_has ls 3 [(0, .ref v0), (1, .int v1), (2, .int v2)] := hl
  show W p l e rm_X11_committed s m args below meth c s.heap [] 0 0 (vx_MQ below (va_Ql Kn (BG D cy A Y) A) (XX D cy A Y Xn) args s 2 12 A) (F0 m 0 ls [])
  unfold f_X11_committed at hf
  refine lv_iload_n hx hb dX11_committed_0 rfl (lv_at hl 1 rfl) ?_
  refine gm_ci (va_runS (As := [.int v1]) (rest := []) ⟨hx, hb, hml, hown, hts⟩ (m_X11_isOfEight l D cy tq _ Y _ _ _) (va_cwS 1 hts (good_S kw_1141 kw_1142 kw_1 kw_1143) rfl rfl rfl (by decide +kernel) ⟨Nat.le_of_ble_eq_true rfl, Nat.le_of_ble_eq_true rfl⟩) (gm_preS hK hW hC hS hA hf) rfl rfl hl.1 rfl (lv_room (Nat.le_of_ble_eq_true rfl)) dX11_committed_1 ⟨Nat.le_of_ble_eq_true rfl, Nat.le_of_ble_eq_true rfl⟩) hW hS hA (fun r2 M1 H locs hW hS hf => ?_)
  have j20 : ∀ (y3 : Int32) (M4 : Mm) (H : Heap) (locs : List Loc) (ls : Array Slot), lv_has ls 3 [(0, .ref v0), (1, .int v1), (2, .int v2)] → Wd D cy A Y M4 H → va_S A s.heap H locs → f_X11_committed_20 Y v0 v1 v2 Kn Xn y3 M4 → W p l e rm_X11_committed s m args below meth c H locs 0 0 (vx_MQ below (va_Ql Kn (BG D cy A Y) A) (XX D cy A Y Xn) args s 2 12 A) (F0 m 20 ls [.int y3]) := by
    intro y3 M4 H locs ls hl hW hS hf
    unfold f_X11_committed_20 at hf
    refine gx_cv (vx_runS (As := [.int y3]) (rest := []) ⟨hx, hb, hml, hown, hts⟩ (m_X11_needArguments l hlt D cy tq _ Y _ _ _ _) (va_cwS 1 hts (good_S kw_463 kw_464 kw_1 kw_465) rfl rfl rfl (by decide +kernel) ⟨Nat.le_of_ble_eq_true rfl, Nat.le_of_ble_eq_true rfl⟩) (gm_preS hK hW hC hS hA hf) rfl rfl hl.1 rfl (lv_room (Nat.le_of_ble_eq_true rfl)) dX11_committed_20 ⟨Nat.le_of_ble_eq_true rfl, Nat.le_of_ble_eq_true rfl⟩) hW hS hA (fun E M9 H locs ce q9 hW hS hf h1 h2 h3 => gx_out hno hlocks hW hS hf h1 h2 h3 (Nat.le_of_ble_eq_true rfl) (Nat.le_of_ble_eq_true rfl)) (fun M5 H locs hW hS hf => ?_)
    refine lv_aload_n hx hb dX11_committed_23 rfl (lv_at hl 0 rfl) ?_
    obtain ⟨k7, hf⟩ := hf
    refine gx_cv (vx_runV (As := []) (rest := []) ⟨hx, hb, hml, hown, hts⟩ (m_X11_needPower l hlt D cy tq _ Y _ _ _ _) (cwV 0 hts (good_V kw_842 kw_843 kw_1794 kw_1 kw_844) rfl rfl rfl (by decide +kernel) ⟨Nat.le_of_ble_eq_true rfl, Nat.le_of_ble_eq_true rfl⟩) (gm_preV hK hW hC hS hA k7 (by decide) (q := (RX11, TX11, 13)) rfl rfl hf) rfl rfl hl.1 rfl (lv_room (Nat.le_of_ble_eq_true rfl)) dX11_committed_24 ⟨Nat.le_of_ble_eq_true rfl, Nat.le_of_ble_eq_true rfl⟩) hW hS hA (fun E M9 H locs ce q9 hW hS hf h1 h2 h3 => gx_out hno hlocks hW hS hf h1 h2 h3 (Nat.le_of_ble_eq_true rfl) (Nat.le_of_ble_eq_true rfl)) (fun M6 H locs hW hS hf => ?_)
    refine lv_aload_n hx hb dX11_committed_27 rfl (lv_at hl 0 rfl) ?_
    obtain ⟨b8, hb8, hf⟩ := hf
    refine gm_getR (C := RX11) (T := TX11) (N := 13) (j := 12) hx hb hts inT_11 hown hK hW k7 (by decide) rfl (by decide) rfl (hts _ kw_306) rfl dX11_committed_28 hb8 ?_
    refine lv_iload_n hx hb dX11_committed_31 rfl (lv_at hl 1 rfl) ?_
    refine lv_iload_n hx hb dX11_committed_32 rfl (lv_at hl 2 rfl) ?_
    obtain ⟨k11, hf⟩ := hf
    refine gm_cl (va_runV (As := [.int v1, .int v2]) (rest := []) ⟨hx, hb, hml, hown, hts⟩ (m_X7_latestNote l D cy tq _ Y _ _ _ _ _) (cwV 2 hts (good_V kw_1229 kw_371 kw_372 kw_11 kw_373) rfl rfl rfl (by decide +kernel) ⟨Nat.le_of_ble_eq_true rfl, Nat.le_of_ble_eq_true rfl⟩) (gm_preV hK hW hC hS hA k11 (by decide) (q := (RX7, TX7, 9)) rfl rfl hf) rfl rfl hl.1 rfl (lv_room (Nat.le_of_ble_eq_true rfl)) dX11_committed_33 ⟨Nat.le_of_ble_eq_true rfl, Nat.le_of_ble_eq_true rfl⟩) hW hS hA (fun r10 M9 H locs hW hS hf => ?_)
    exact vx_ret (gm_lret hx hb hr hlocks hW hS hf dX11_committed_36)
  have j19 : ∀ (M12 : Mm) (H : Heap) (locs : List Loc) (ls : Array Slot), lv_has ls 3 [(0, .ref v0), (1, .int v1), (2, .int v2)] → Wd D cy A Y M12 H → va_S A s.heap H locs → f_X11_committed_19 Y v0 v1 v2 Kn Xn M12 → W p l e rm_X11_committed s m args below meth c H locs 0 0 (vx_MQ below (va_Ql Kn (BG D cy A Y) A) (XX D cy A Y Xn) args s 2 12 A) (F0 m 19 ls []) := by
    intro M12 H locs ls hl hW hS hf
    unfold f_X11_committed_19 at hf
    refine lv_iconst (v := 0) hx hb dX11_committed_19 (by decide +kernel) ?_
    exact j20 _ _ _ _ _ (lv_sub hl [0, 1, 2] rfl) hW hS hf
  refine lv_if_eq (tgt := 19) hx hb dX11_committed_4 (by decide) (fun c13 => ?_) (fun c13 => ?_)
  · replace hf := hf.1 c13
    exact j19 _ _ _ _ (lv_sub hl [0, 1, 2] rfl) hW hS hf
  · replace hf := hf.2 c13
    refine lv_aload_n hx hb dX11_committed_7 rfl (lv_at hl 0 rfl) ?_
    refine lv_iload_n hx hb dX11_committed_8 rfl (lv_at hl 2 rfl) ?_
    obtain ⟨k16, hf⟩ := hf
    refine gm_ci (va_runV (As := [.int v2]) (rest := []) ⟨hx, hb, hml, hown, hts⟩ (m_X11_isForProducers l D cy tq _ Y _ _ _ _) (cwV 1 hts (good_V kw_859 kw_860 kw_1795 kw_1 kw_861) rfl rfl rfl (by decide +kernel) ⟨Nat.le_of_ble_eq_true rfl, Nat.le_of_ble_eq_true rfl⟩) (gm_preV hK hW hC hS hA k16 (by decide) (q := (RX11, TX11, 13)) rfl rfl hf) rfl rfl hl.1 rfl (lv_room (Nat.le_of_ble_eq_true rfl)) dX11_committed_9 ⟨Nat.le_of_ble_eq_true rfl, Nat.le_of_ble_eq_true rfl⟩) hW hS hA (fun r15 M14 H locs hW hS hf => ?_)
    refine lv_if_eq (tgt := 19) hx hb dX11_committed_12 (by decide) (fun c17 => ?_) (fun c17 => ?_)
    · replace hf := hf.1 c17
      exact j19 _ _ _ _ (lv_sub hl [0, 1, 2] rfl) hW hS hf
    · replace hf := hf.2 c17
      refine lv_iconst (v := 1) hx hb dX11_committed_15 (by decide +kernel) ?_
      refine lv_goto (tgt := 20) hx hb dX11_committed_16 (by decide) ?_
      exact j20 _ _ _ _ _ (lv_sub hl [0, 1, 2] rfl) hW hS hf

abbrev rm_X11_group : Room := { frames := 8, cells := 2, slots := 12, locals := 130 }
def f_X11_group_24 (Y : Ly) (v0 : Nat) (v1 : Int32) (v2 : Int32) (Kn : Int32 → Mm → Prop) (Xn : String → Mm → Prop) (y3 : Int32) (M4 : Mm) : Prop :=
  f_X11_needArguments Y y3 M4 (fun M5 => (yK Y v0 = 11 ∧ (f_X11_needPower Y v0 M5 (fun M6 => (((v2 < 0 ∨ 4 ≤ v2) → (∃ b8 : Nat, mR M6 v0 12 = some b8 ∧ (yK Y b8 = 7 ∧ (f_X7_ticksLeft Y b8 v1 M6 (fun r10 M9 => (Kn r10 M9)))))) ∧ (v2 = 0 → (∃ b13 : Nat, mR M6 v0 12 = some b13 ∧ (yK Y b13 = 7 ∧ (∃ b15 : Nat, mR M6 b13 1 = some b15 ∧ (yK Y b15 = 101 ∧ (vp_in v1 (yN Y b15) ∧ (Kn (mI M6 b15 v1.toNatClampNeg) M6))))))) ∧ (v2 = 1 → (∃ b18 : Nat, mR M6 v0 12 = some b18 ∧ (yK Y b18 = 7 ∧ (∃ b20 : Nat, mR M6 b18 2 = some b20 ∧ (yK Y b20 = 101 ∧ (vp_in v1 (yN Y b20) ∧ (Kn (mI M6 b20 v1.toNatClampNeg) M6))))))) ∧ (v2 = 2 → (∃ b23 : Nat, mR M6 v0 12 = some b23 ∧ (yK Y b23 = 7 ∧ (∃ b25 : Nat, mR M6 b23 3 = some b25 ∧ (yK Y b25 = 101 ∧ (vp_in v1 (yN Y b25) ∧ (Kn (mI M6 b25 v1.toNatClampNeg) M6))))))) ∧ (v2 = 3 → (∃ b28 : Nat, mR M6 v0 12 = some b28 ∧ (yK Y b28 = 7 ∧ (∃ b30 : Nat, mR M6 b28 4 = some b30 ∧ (yK Y b30 = 101 ∧ (vp_in v1 (yN Y b30) ∧ (Kn (mI M6 b30 v1.toNatClampNeg) M6))))))))) Xn))) Xn
def f_X11_group_23 (Y : Ly) (v0 : Nat) (v1 : Int32) (v2 : Int32) (Kn : Int32 → Mm → Prop) (Xn : String → Mm → Prop) (M33 : Mm) : Prop :=
  f_X11_group_24 Y v0 v1 v2 Kn Xn 0 M33
def f_X11_group (Y : Ly) (v0 : Nat) (v1 : Int32) (v2 : Int32) (M : Mm) (Kn : Int32 → Mm → Prop) (Xn : String → Mm → Prop) : Prop :=
  f_X11_isOfEight Y v1 M (fun r2 M1 => ((r2 = 0 → (f_X11_group_23 Y v0 v1 v2 Kn Xn M1)) ∧ (¬ (r2 = 0) → (f_X11_isWithin Y v2.toInt64 0 4 M1 (fun r36 M35 => ((r36 = 0 → (f_X11_group_23 Y v0 v1 v2 Kn Xn M35)) ∧ (¬ (r36 = 0) → (f_X11_group_24 Y v0 v1 v2 Kn Xn 1 M35))))))))
set_option maxHeartbeats 4000000 in
set_option maxRecDepth 100000 in
theorem m_X11_group (l : Launch) (hlt : l.stackTraces = false) (D : va_G) (cy : Cy) (tq sz : Nat) (Y : Ly) (v0 : Nat) (v1 : Int32) (v2 : Int32) (M : Mm) (Kn : Int32 → Mm → Prop) (Xn : String → Mm → Prop) : vx_Met l yX11_group (Cond.code yX11_group cX11_group 3 (some .int) :: TT) rm_X11_group (PcG D cy tq [.ref v0, .int v1, .int v2] sz Y M (f_X11_group Y v0 v1 v2 M Kn Xn)) (va_Qi Kn (BG D cy (Am Y sz) Y) (Am Y sz)) (XX D cy (Am Y sz) Y Xn) 2 12 (Am Y sz) := by
  refine vx_ofW (cc := cX11_group) (maxL := 3) (ret := (some .int)) (by decide) rfl ?_
  intro p e s m args below meth c s₁ B hml hno hv
  obtain ⟨hargs, hsz, hW, hK, hC, hf⟩ := hv
  subst hsz
  have hx := B.exec
  have hb := B.bytes
  have hr := B.returns
  have hts : ∀ w ∈ TT, w.before args s = true := fun w h => atoms_spec (ws := Cond.code yX11_group cX11_group 3 (some .int) :: TT) B.pre w (List.mem_cons_of_mem _ h)
  have hown : s.vm.findClass RX11 = some m.cls := findClass_of_methodNamed B.named
  have hlocks := B.notSynchronized
  replace hW := Wd_self (sz := s.heap.size) hW
  generalize hAe : Am Y s.heap.size = A at hW hC ⊢
  have hA : ∀ q : Nat, s.heap.size ≤ q → A q := fun q h => by rw [← hAe]; exact Or.inr h
  clear hAe
  have hS : va_S A s.heap s.heap [] := va_S.rf
  obtain ⟨ls, hE, hl⟩ := gm_entry m [.ref v0, .int v1, .int v2] (n := 3) hargs (Nat.le_of_ble_eq_true rfl)
  rw [hE]
  have hl : lv_has ls 3 [(0, .ref v0), (1, .int v1), (2, .int v2)] := hl
  show W p l e rm_X11_group s m args below meth c s.heap [] 0 0 (vx_MQ below (va_Qi Kn (BG D cy A Y) A) (XX D cy A Y Xn) args s 2 12 A) (F0 m 0 ls [])
  unfold f_X11_group at hf
  refine lv_iload_n hx hb dX11_group_0 rfl (lv_at hl 1 rfl) ?_
  refine gm_ci (va_runS (As := [.int v1]) (rest := []) ⟨hx, hb, hml, hown, hts⟩ (m_X11_isOfEight l D cy tq _ Y _ _ _) (va_cwS 1 hts (good_S kw_1141 kw_1142 kw_1 kw_1143) rfl rfl rfl (by decide +kernel) ⟨Nat.le_of_ble_eq_true rfl, Nat.le_of_ble_eq_true rfl⟩) (gm_preS hK hW hC hS hA hf) rfl rfl hl.1 rfl (lv_room (Nat.le_of_ble_eq_true rfl)) dX11_group_1 ⟨Nat.le_of_ble_eq_true rfl, Nat.le_of_ble_eq_true rfl⟩) hW hS hA (fun r2 M1 H locs hW hS hf => ?_)
  have j24 : ∀ (y3 : Int32) (M4 : Mm) (H : Heap) (locs : List Loc) (ls : Array Slot), lv_has ls 3 [(0, .ref v0), (1, .int v1), (2, .int v2)] → Wd D cy A Y M4 H → va_S A s.heap H locs → f_X11_group_24 Y v0 v1 v2 Kn Xn y3 M4 → W p l e rm_X11_group s m args below meth c H locs 0 0 (vx_MQ below (va_Qi Kn (BG D cy A Y) A) (XX D cy A Y Xn) args s 2 12 A) (F0 m 24 ls [.int y3]) := by
    intro y3 M4 H locs ls hl hW hS hf
    unfold f_X11_group_24 at hf
    refine gx_cv (vx_runS (As := [.int y3]) (rest := []) ⟨hx, hb, hml, hown, hts⟩ (m_X11_needArguments l hlt D cy tq _ Y _ _ _ _) (va_cwS 1 hts (good_S kw_463 kw_464 kw_1 kw_465) rfl rfl rfl (by decide +kernel) ⟨Nat.le_of_ble_eq_true rfl, Nat.le_of_ble_eq_true rfl⟩) (gm_preS hK hW hC hS hA hf) rfl rfl hl.1 rfl (lv_room (Nat.le_of_ble_eq_true rfl)) dX11_group_24 ⟨Nat.le_of_ble_eq_true rfl, Nat.le_of_ble_eq_true rfl⟩) hW hS hA (fun E M9 H locs ce q9 hW hS hf h1 h2 h3 => gx_out hno hlocks hW hS hf h1 h2 h3 (Nat.le_of_ble_eq_true rfl) (Nat.le_of_ble_eq_true rfl)) (fun M5 H locs hW hS hf => ?_)
    refine lv_aload_n hx hb dX11_group_27 rfl (lv_at hl 0 rfl) ?_
    obtain ⟨k7, hf⟩ := hf
    refine gx_cv (vx_runV (As := []) (rest := []) ⟨hx, hb, hml, hown, hts⟩ (m_X11_needPower l hlt D cy tq _ Y _ _ _ _) (cwV 0 hts (good_V kw_842 kw_843 kw_1794 kw_1 kw_844) rfl rfl rfl (by decide +kernel) ⟨Nat.le_of_ble_eq_true rfl, Nat.le_of_ble_eq_true rfl⟩) (gm_preV hK hW hC hS hA k7 (by decide) (q := (RX11, TX11, 13)) rfl rfl hf) rfl rfl hl.1 rfl (lv_room (Nat.le_of_ble_eq_true rfl)) dX11_group_28 ⟨Nat.le_of_ble_eq_true rfl, Nat.le_of_ble_eq_true rfl⟩) hW hS hA (fun E M9 H locs ce q9 hW hS hf h1 h2 h3 => gx_out hno hlocks hW hS hf h1 h2 h3 (Nat.le_of_ble_eq_true rfl) (Nat.le_of_ble_eq_true rfl)) (fun M6 H locs hW hS hf => ?_)
    refine lv_iload_n hx hb dX11_group_31 rfl (lv_at hl 2 rfl) ?_
    rcases sw_split v2 4 (by decide) with c12 | ⟨kc12, hkc12, ec12⟩
    · replace hf := hf.1 c12
      refine lv_tableOut (tgt := 104) hx hb dX11_group_32 (sw_int 4 (by decide) (by decide) c12) (by decide) ?_
      refine lv_aload_n hx hb dX11_group_104 rfl (lv_at hl 0 rfl) ?_
      obtain ⟨b8, hb8, hf⟩ := hf
      refine gm_getR (C := RX11) (T := TX11) (N := 13) (j := 12) hx hb hts inT_11 hown hK hW k7 (by decide) rfl (by decide) rfl (hts _ kw_306) rfl dX11_group_105 hb8 ?_
      refine lv_iload_n hx hb dX11_group_108 rfl (lv_at hl 1 rfl) ?_
      obtain ⟨k11, hf⟩ := hf
      refine gm_ci (va_runV (As := [.int v1]) (rest := []) ⟨hx, hb, hml, hown, hts⟩ (m_X7_ticksLeft l D cy tq _ Y _ _ _ _) (cwV 1 hts (good_V kw_1238 kw_1239 kw_1240 kw_11 kw_1241) rfl rfl rfl (by decide +kernel) ⟨Nat.le_of_ble_eq_true rfl, Nat.le_of_ble_eq_true rfl⟩) (gm_preV hK hW hC hS hA k11 (by decide) (q := (RX7, TX7, 9)) rfl rfl hf) rfl rfl hl.1 rfl (lv_room (Nat.le_of_ble_eq_true rfl)) dX11_group_109 ⟨Nat.le_of_ble_eq_true rfl, Nat.le_of_ble_eq_true rfl⟩) hW hS hA (fun r10 M9 H locs hW hS hf => ?_)
      exact vx_ret (gm_iret hx hb hr hlocks hW hS hf dX11_group_112)
    · rcases (show kc12 = 0 ∨ kc12 = 1 ∨ kc12 = 2 ∨ kc12 = 3 by omega) with rfl | rfl | rfl | rfl
      · replace hf := hf.2.1 ec12
        refine lv_tableIn (off := 32) (tgt := 64) hx hb dX11_group_32 (by rw [ec12]; decide) (by rw [ec12]; decide) (by rw [ec12]; rfl) (by decide) ?_
        refine lv_aload_n hx hb dX11_group_64 rfl (lv_at hl 0 rfl) ?_
        obtain ⟨b13, hb13, hf⟩ := hf
        refine gm_getR (C := RX11) (T := TX11) (N := 13) (j := 12) hx hb hts inT_11 hown hK hW k7 (by decide) rfl (by decide) rfl (hts _ kw_306) rfl dX11_group_65 hb13 ?_
        obtain ⟨k14, hf⟩ := hf
        obtain ⟨b15, hb15, hf⟩ := hf
        refine gm_getR (C := RX7) (T := TX7) (N := 9) (j := 1) hx hb hts inT_7 hown hK hW k14 (by decide) rfl (by decide) rfl (hts _ kw_274) rfl dX11_group_68 hb15 ?_
        refine lv_iload_n hx hb dX11_group_71 rfl (lv_at hl 1 rfl) ?_
        obtain ⟨k16, hf⟩ := hf
        obtain ⟨h17, hf⟩ := hf
        refine gm_iald hx hb hK hW k16 h17 dX11_group_72 ?_
        exact vx_ret (gm_iret hx hb hr hlocks hW hS hf dX11_group_73)
      · replace hf := hf.2.2.1 ec12
        refine lv_tableIn (off := 42) (tgt := 74) hx hb dX11_group_32 (by rw [ec12]; decide) (by rw [ec12]; decide) (by rw [ec12]; rfl) (by decide) ?_
        refine lv_aload_n hx hb dX11_group_74 rfl (lv_at hl 0 rfl) ?_
        obtain ⟨b18, hb18, hf⟩ := hf
        refine gm_getR (C := RX11) (T := TX11) (N := 13) (j := 12) hx hb hts inT_11 hown hK hW k7 (by decide) rfl (by decide) rfl (hts _ kw_306) rfl dX11_group_75 hb18 ?_
        obtain ⟨k19, hf⟩ := hf
        obtain ⟨b20, hb20, hf⟩ := hf
        refine gm_getR (C := RX7) (T := TX7) (N := 9) (j := 2) hx hb hts inT_7 hown hK hW k19 (by decide) rfl (by decide) rfl (hts _ kw_276) rfl dX11_group_78 hb20 ?_
        refine lv_iload_n hx hb dX11_group_81 rfl (lv_at hl 1 rfl) ?_
        obtain ⟨k21, hf⟩ := hf
        obtain ⟨h22, hf⟩ := hf
        refine gm_iald hx hb hK hW k21 h22 dX11_group_82 ?_
        exact vx_ret (gm_iret hx hb hr hlocks hW hS hf dX11_group_83)
      · replace hf := hf.2.2.2.1 ec12
        refine lv_tableIn (off := 52) (tgt := 84) hx hb dX11_group_32 (by rw [ec12]; decide) (by rw [ec12]; decide) (by rw [ec12]; rfl) (by decide) ?_
        refine lv_aload_n hx hb dX11_group_84 rfl (lv_at hl 0 rfl) ?_
        obtain ⟨b23, hb23, hf⟩ := hf
        refine gm_getR (C := RX11) (T := TX11) (N := 13) (j := 12) hx hb hts inT_11 hown hK hW k7 (by decide) rfl (by decide) rfl (hts _ kw_306) rfl dX11_group_85 hb23 ?_
        obtain ⟨k24, hf⟩ := hf
        obtain ⟨b25, hb25, hf⟩ := hf
        refine gm_getR (C := RX7) (T := TX7) (N := 9) (j := 3) hx hb hts inT_7 hown hK hW k24 (by decide) rfl (by decide) rfl (hts _ kw_278) rfl dX11_group_88 hb25 ?_
        refine lv_iload_n hx hb dX11_group_91 rfl (lv_at hl 1 rfl) ?_
        obtain ⟨k26, hf⟩ := hf
        obtain ⟨h27, hf⟩ := hf
        refine gm_iald hx hb hK hW k26 h27 dX11_group_92 ?_
        exact vx_ret (gm_iret hx hb hr hlocks hW hS hf dX11_group_93)
      · replace hf := hf.2.2.2.2 ec12
        refine lv_tableIn (off := 62) (tgt := 94) hx hb dX11_group_32 (by rw [ec12]; decide) (by rw [ec12]; decide) (by rw [ec12]; rfl) (by decide) ?_
        refine lv_aload_n hx hb dX11_group_94 rfl (lv_at hl 0 rfl) ?_
        obtain ⟨b28, hb28, hf⟩ := hf
        refine gm_getR (C := RX11) (T := TX11) (N := 13) (j := 12) hx hb hts inT_11 hown hK hW k7 (by decide) rfl (by decide) rfl (hts _ kw_306) rfl dX11_group_95 hb28 ?_
        obtain ⟨k29, hf⟩ := hf
        obtain ⟨b30, hb30, hf⟩ := hf
        refine gm_getR (C := RX7) (T := TX7) (N := 9) (j := 4) hx hb hts inT_7 hown hK hW k29 (by decide) rfl (by decide) rfl (hts _ kw_280) rfl dX11_group_98 hb30 ?_
        refine lv_iload_n hx hb dX11_group_101 rfl (lv_at hl 1 rfl) ?_
        obtain ⟨k31, hf⟩ := hf
        obtain ⟨h32, hf⟩ := hf
        refine gm_iald hx hb hK hW k31 h32 dX11_group_102 ?_
        exact vx_ret (gm_iret hx hb hr hlocks hW hS hf dX11_group_103)
  have j23 : ∀ (M33 : Mm) (H : Heap) (locs : List Loc) (ls : Array Slot), lv_has ls 3 [(0, .ref v0), (1, .int v1), (2, .int v2)] → Wd D cy A Y M33 H → va_S A s.heap H locs → f_X11_group_23 Y v0 v1 v2 Kn Xn M33 → W p l e rm_X11_group s m args below meth c H locs 0 0 (vx_MQ below (va_Qi Kn (BG D cy A Y) A) (XX D cy A Y Xn) args s 2 12 A) (F0 m 23 ls []) := by
    intro M33 H locs ls hl hW hS hf
    unfold f_X11_group_23 at hf
    refine lv_iconst (v := 0) hx hb dX11_group_23 (by decide +kernel) ?_
    exact j24 _ _ _ _ _ (lv_sub hl [0, 1, 2] rfl) hW hS hf
  refine lv_if_eq (tgt := 23) hx hb dX11_group_4 (by decide) (fun c34 => ?_) (fun c34 => ?_)
  · replace hf := hf.1 c34
    exact j23 _ _ _ _ (lv_sub hl [0, 1, 2] rfl) hW hS hf
  · replace hf := hf.2 c34
    refine lv_iload_n hx hb dX11_group_7 rfl (lv_at hl 2 rfl) ?_
    refine lv_i2l hx hb dX11_group_8 rfl ?_
    refine lv_lconst (v := 0) hx hb dX11_group_9 (by decide) ?_
    refine lv_ldc2 (v := 4) hx hb hown (hts _ kw_1237) dX11_group_10 ?_
    refine gm_ci (va_runS (As := [.long v2.toInt64, .long 0, .long 4]) (rest := []) ⟨hx, hb, hml, hown, hts⟩ (m_X11_isWithin l D cy tq _ Y _ _ _ _ _) (va_cwS 3 hts (good_S kw_460 kw_461 kw_1 kw_462) rfl rfl rfl (by decide +kernel) ⟨Nat.le_of_ble_eq_true rfl, Nat.le_of_ble_eq_true rfl⟩) (gm_preS hK hW hC hS hA hf) rfl rfl hl.1 rfl (lv_room (Nat.le_of_ble_eq_true rfl)) dX11_group_13 ⟨Nat.le_of_ble_eq_true rfl, Nat.le_of_ble_eq_true rfl⟩) hW hS hA (fun r36 M35 H locs hW hS hf => ?_)
    refine lv_if_eq (tgt := 23) hx hb dX11_group_16 (by decide) (fun c37 => ?_) (fun c37 => ?_)
    · replace hf := hf.1 c37
      exact j23 _ _ _ _ (lv_sub hl [0, 1, 2] rfl) hW hS hf
    · replace hf := hf.2 c37
      refine lv_iconst (v := 1) hx hb dX11_group_19 (by decide +kernel) ?_
      refine lv_goto (tgt := 24) hx hb dX11_group_20 (by decide) ?_
      exact j24 _ _ _ _ _ (lv_sub hl [0, 1, 2] rfl) hW hS hf

abbrev rm_X11_share : Room := { frames := 8, cells := 2, slots := 12, locals := 130 }
def f_X11_share_19 (Y : Ly) (v0 : Nat) (v1 : Int32) (v2 : Int32) (Kn : Int32 → Mm → Prop) (Xn : String → Mm → Prop) (y3 : Int32) (M4 : Mm) : Prop :=
  f_X11_needArguments Y y3 M4 (fun M5 => (yK Y v0 = 11 ∧ (f_X11_needPower Y v0 M5 (fun M6 => (∃ b8 : Nat, mR M6 v0 12 = some b8 ∧ (yK Y b8 = 7 ∧ (f_X7_shareOf Y b8 v1 v2 M6 (fun r10 M9 => (Kn r10 M9)))))) Xn))) Xn
def f_X11_share_18 (Y : Ly) (v0 : Nat) (v1 : Int32) (v2 : Int32) (Kn : Int32 → Mm → Prop) (Xn : String → Mm → Prop) (M12 : Mm) : Prop :=
  f_X11_share_19 Y v0 v1 v2 Kn Xn 0 M12
def f_X11_share (Y : Ly) (v0 : Nat) (v1 : Int32) (v2 : Int32) (M : Mm) (Kn : Int32 → Mm → Prop) (Xn : String → Mm → Prop) : Prop :=
  f_X11_isOfEight Y v1 M (fun r2 M1 => ((r2 = 0 → (f_X11_share_18 Y v0 v1 v2 Kn Xn M1)) ∧ (¬ (r2 = 0) → (f_X11_isOfEight Y v2 M1 (fun r15 M14 => ((r15 = 0 → (f_X11_share_18 Y v0 v1 v2 Kn Xn M14)) ∧ (¬ (r15 = 0) → (f_X11_share_19 Y v0 v1 v2 Kn Xn 1 M14))))))))
set_option maxHeartbeats 4000000 in
set_option maxRecDepth 100000 in
theorem m_X11_share (l : Launch) (hlt : l.stackTraces = false) (D : va_G) (cy : Cy) (tq sz : Nat) (Y : Ly) (v0 : Nat) (v1 : Int32) (v2 : Int32) (M : Mm) (Kn : Int32 → Mm → Prop) (Xn : String → Mm → Prop) : vx_Met l yX11_share (Cond.code yX11_share cX11_share 3 (some .int) :: TT) rm_X11_share (PcG D cy tq [.ref v0, .int v1, .int v2] sz Y M (f_X11_share Y v0 v1 v2 M Kn Xn)) (va_Qi Kn (BG D cy (Am Y sz) Y) (Am Y sz)) (XX D cy (Am Y sz) Y Xn) 2 12 (Am Y sz) := by
  refine vx_ofW (cc := cX11_share) (maxL := 3) (ret := (some .int)) (by decide) rfl ?_
  intro p e s m args below meth c s₁ B hml hno hv
  obtain ⟨hargs, hsz, hW, hK, hC, hf⟩ := hv
  subst hsz
  have hx := B.exec
  have hb := B.bytes
  have hr := B.returns
  have hts : ∀ w ∈ TT, w.before args s = true := fun w h => atoms_spec (ws := Cond.code yX11_share cX11_share 3 (some .int) :: TT) B.pre w (List.mem_cons_of_mem _ h)
  have hown : s.vm.findClass RX11 = some m.cls := findClass_of_methodNamed B.named
  have hlocks := B.notSynchronized
  replace hW := Wd_self (sz := s.heap.size) hW
  generalize hAe : Am Y s.heap.size = A at hW hC ⊢
  have hA : ∀ q : Nat, s.heap.size ≤ q → A q := fun q h => by rw [← hAe]; exact Or.inr h
  clear hAe
  have hS : va_S A s.heap s.heap [] := va_S.rf
  obtain ⟨ls, hE, hl⟩ := gm_entry m [.ref v0, .int v1, .int v2] (n := 3) hargs (Nat.le_of_ble_eq_true rfl)
  rw [hE]
  have hl : lv_has ls 3 [(0, .ref v0), (1, .int v1), (2, .int v2)] := hl
  show W p l e rm_X11_share s m args below meth c s.heap [] 0 0 (vx_MQ below (va_Qi Kn (BG D cy A Y) A) (XX D cy A Y Xn) args s 2 12 A) (F0 m 0 ls [])
  unfold f_X11_share at hf
  refine lv_iload_n hx hb dX11_share_0 rfl (lv_at hl 1 rfl) ?_
  refine gm_ci (va_runS (As := [.int v1]) (rest := []) ⟨hx, hb, hml, hown, hts⟩ (m_X11_isOfEight l D cy tq _ Y _ _ _) (va_cwS 1 hts (good_S kw_1141 kw_1142 kw_1 kw_1143) rfl rfl rfl (by decide +kernel) ⟨Nat.le_of_ble_eq_true rfl, Nat.le_of_ble_eq_true rfl⟩) (gm_preS hK hW hC hS hA hf) rfl rfl hl.1 rfl (lv_room (Nat.le_of_ble_eq_true rfl)) dX11_share_1 ⟨Nat.le_of_ble_eq_true rfl, Nat.le_of_ble_eq_true rfl⟩) hW hS hA (fun r2 M1 H locs hW hS hf => ?_)
  have j19 : ∀ (y3 : Int32) (M4 : Mm) (H : Heap) (locs : List Loc) (ls : Array Slot), lv_has ls 3 [(0, .ref v0), (1, .int v1), (2, .int v2)] → Wd D cy A Y M4 H → va_S A s.heap H locs → f_X11_share_19 Y v0 v1 v2 Kn Xn y3 M4 → W p l e rm_X11_share s m args below meth c H locs 0 0 (vx_MQ below (va_Qi Kn (BG D cy A Y) A) (XX D cy A Y Xn) args s 2 12 A) (F0 m 19 ls [.int y3]) := by
    intro y3 M4 H locs ls hl hW hS hf
    unfold f_X11_share_19 at hf
    refine gx_cv (vx_runS (As := [.int y3]) (rest := []) ⟨hx, hb, hml, hown, hts⟩ (m_X11_needArguments l hlt D cy tq _ Y _ _ _ _) (va_cwS 1 hts (good_S kw_463 kw_464 kw_1 kw_465) rfl rfl rfl (by decide +kernel) ⟨Nat.le_of_ble_eq_true rfl, Nat.le_of_ble_eq_true rfl⟩) (gm_preS hK hW hC hS hA hf) rfl rfl hl.1 rfl (lv_room (Nat.le_of_ble_eq_true rfl)) dX11_share_19 ⟨Nat.le_of_ble_eq_true rfl, Nat.le_of_ble_eq_true rfl⟩) hW hS hA (fun E M9 H locs ce q9 hW hS hf h1 h2 h3 => gx_out hno hlocks hW hS hf h1 h2 h3 (Nat.le_of_ble_eq_true rfl) (Nat.le_of_ble_eq_true rfl)) (fun M5 H locs hW hS hf => ?_)
    refine lv_aload_n hx hb dX11_share_22 rfl (lv_at hl 0 rfl) ?_
    obtain ⟨k7, hf⟩ := hf
    refine gx_cv (vx_runV (As := []) (rest := []) ⟨hx, hb, hml, hown, hts⟩ (m_X11_needPower l hlt D cy tq _ Y _ _ _ _) (cwV 0 hts (good_V kw_842 kw_843 kw_1794 kw_1 kw_844) rfl rfl rfl (by decide +kernel) ⟨Nat.le_of_ble_eq_true rfl, Nat.le_of_ble_eq_true rfl⟩) (gm_preV hK hW hC hS hA k7 (by decide) (q := (RX11, TX11, 13)) rfl rfl hf) rfl rfl hl.1 rfl (lv_room (Nat.le_of_ble_eq_true rfl)) dX11_share_23 ⟨Nat.le_of_ble_eq_true rfl, Nat.le_of_ble_eq_true rfl⟩) hW hS hA (fun E M9 H locs ce q9 hW hS hf h1 h2 h3 => gx_out hno hlocks hW hS hf h1 h2 h3 (Nat.le_of_ble_eq_true rfl) (Nat.le_of_ble_eq_true rfl)) (fun M6 H locs hW hS hf => ?_)
    refine lv_aload_n hx hb dX11_share_26 rfl (lv_at hl 0 rfl) ?_
    obtain ⟨b8, hb8, hf⟩ := hf
    refine gm_getR (C := RX11) (T := TX11) (N := 13) (j := 12) hx hb hts inT_11 hown hK hW k7 (by decide) rfl (by decide) rfl (hts _ kw_306) rfl dX11_share_27 hb8 ?_
    refine lv_iload_n hx hb dX11_share_30 rfl (lv_at hl 1 rfl) ?_
    refine lv_iload_n hx hb dX11_share_31 rfl (lv_at hl 2 rfl) ?_
    obtain ⟨k11, hf⟩ := hf
    refine gm_ci (va_runV (As := [.int v1, .int v2]) (rest := []) ⟨hx, hb, hml, hown, hts⟩ (m_X7_shareOf l D cy tq _ Y _ _ _ _ _) (cwV 2 hts (good_V kw_1250 kw_1212 kw_1213 kw_11 kw_1214) rfl rfl rfl (by decide +kernel) ⟨Nat.le_of_ble_eq_true rfl, Nat.le_of_ble_eq_true rfl⟩) (gm_preV hK hW hC hS hA k11 (by decide) (q := (RX7, TX7, 9)) rfl rfl hf) rfl rfl hl.1 rfl (lv_room (Nat.le_of_ble_eq_true rfl)) dX11_share_32 ⟨Nat.le_of_ble_eq_true rfl, Nat.le_of_ble_eq_true rfl⟩) hW hS hA (fun r10 M9 H locs hW hS hf => ?_)
    exact vx_ret (gm_iret hx hb hr hlocks hW hS hf dX11_share_35)
  have j18 : ∀ (M12 : Mm) (H : Heap) (locs : List Loc) (ls : Array Slot), lv_has ls 3 [(0, .ref v0), (1, .int v1), (2, .int v2)] → Wd D cy A Y M12 H → va_S A s.heap H locs → f_X11_share_18 Y v0 v1 v2 Kn Xn M12 → W p l e rm_X11_share s m args below meth c H locs 0 0 (vx_MQ below (va_Qi Kn (BG D cy A Y) A) (XX D cy A Y Xn) args s 2 12 A) (F0 m 18 ls []) := by
    intro M12 H locs ls hl hW hS hf
    unfold f_X11_share_18 at hf
    refine lv_iconst (v := 0) hx hb dX11_share_18 (by decide +kernel) ?_
    exact j19 _ _ _ _ _ (lv_sub hl [0, 1, 2] rfl) hW hS hf
  refine lv_if_eq (tgt := 18) hx hb dX11_share_4 (by decide) (fun c13 => ?_) (fun c13 => ?_)
  · replace hf := hf.1 c13
    exact j18 _ _ _ _ (lv_sub hl [0, 1, 2] rfl) hW hS hf
  · replace hf := hf.2 c13
    refine lv_iload_n hx hb dX11_share_7 rfl (lv_at hl 2 rfl) ?_
    refine gm_ci (va_runS (As := [.int v2]) (rest := []) ⟨hx, hb, hml, hown, hts⟩ (m_X11_isOfEight l D cy tq _ Y _ _ _) (va_cwS 1 hts (good_S kw_1141 kw_1142 kw_1 kw_1143) rfl rfl rfl (by decide +kernel) ⟨Nat.le_of_ble_eq_true rfl, Nat.le_of_ble_eq_true rfl⟩) (gm_preS hK hW hC hS hA hf) rfl rfl hl.1 rfl (lv_room (Nat.le_of_ble_eq_true rfl)) dX11_share_8 ⟨Nat.le_of_ble_eq_true rfl, Nat.le_of_ble_eq_true rfl⟩) hW hS hA (fun r15 M14 H locs hW hS hf => ?_)
    refine lv_if_eq (tgt := 18) hx hb dX11_share_11 (by decide) (fun c16 => ?_) (fun c16 => ?_)
    · replace hf := hf.1 c16
      exact j18 _ _ _ _ (lv_sub hl [0, 1, 2] rfl) hW hS hf
    · replace hf := hf.2 c16
      refine lv_iconst (v := 1) hx hb dX11_share_14 (by decide +kernel) ?_
      refine lv_goto (tgt := 19) hx hb dX11_share_15 (by decide) ?_
      exact j19 _ _ _ _ _ (lv_sub hl [0, 1, 2] rfl) hW hS hf

abbrev rm_X11_ticks : Room := { frames := 8, cells := 3, slots := 18, locals := 224 }
def L_X11_ticks_41 (Y : Ly) (v0 : Nat) (v1 : Int32) (Kn : Int32 → Mm → Prop) (x10 : Int32) (M11 : Mm) (again41 : Int32 → Mm → Prop) : Prop :=
  (v1 ≤ x10 → (∃ b13 : Nat, mR M11 v0 12 = some b13 ∧ (yK Y b13 = 7 ∧ (Kn (mI M11 b13 0) M11)))) ∧ (¬ (v1 ≤ x10) → (∃ b15 : Nat, mR M11 v0 12 = some b15 ∧ (yK Y b15 = 7 ∧ (f_X7_tick Y b15 M11 (fun r17 M16 => ((¬ r17 = 0 → (∀ x20 : Int32, x20 = x10 + 1 → (again41 x20 M16))) ∧ (r17 = 0 → (Kn (-3) M16))))))))
def f_X11_ticks_36 (Y : Ly) (v0 : Nat) (v1 : Int32) (Kn : Int32 → Mm → Prop) (Xn : String → Mm → Prop) (M4 : Mm) (y8 : Int32) : Prop :=
  f_X11_needState Y y8 M4 (fun M9 => (∃ n, LOOP2 (L_X11_ticks_41 Y v0 v1 Kn) n 0 M9)) Xn
def f_X11_ticks (Y : Ly) (v0 : Nat) (v1 : Int32) (M : Mm) (Kn : Int32 → Mm → Prop) (Xn : String → Mm → Prop) : Prop :=
  f_X11_isWithin Y v1.toInt64 1 200 M (fun r2 M1 => (f_X11_needArguments Y r2 M1 (fun M3 => (yK Y v0 = 11 ∧ (f_X11_needPower Y v0 M3 (fun M4 => (∃ b6 : Nat, mR M4 v0 12 = some b6 ∧ (yK Y b6 = 7 ∧ ((100000 < ((mI M4 b6 0) + v1) → (f_X11_ticks_36 Y v0 v1 Kn Xn M4 0)) ∧ (¬ (100000 < ((mI M4 b6 0) + v1)) → (f_X11_ticks_36 Y v0 v1 Kn Xn M4 1)))))) Xn))) Xn))
set_option maxHeartbeats 4000000 in
set_option maxRecDepth 100000 in
theorem m_X11_ticks (l : Launch) (hlt : l.stackTraces = false) (D : va_G) (cy : Cy) (tq sz : Nat) (Y : Ly) (v0 : Nat) (v1 : Int32) (M : Mm) (Kn : Int32 → Mm → Prop) (Xn : String → Mm → Prop) : vx_Met l yX11_ticks (Cond.code yX11_ticks cX11_ticks 3 (some .int) :: TT) rm_X11_ticks (PcG D cy tq [.ref v0, .int v1] sz Y M (f_X11_ticks Y v0 v1 M Kn Xn)) (va_Qi Kn (BG D cy (Am Y sz) Y) (Am Y sz)) (XX D cy (Am Y sz) Y Xn) 3 18 (Am Y sz) := by
  refine vx_ofW (cc := cX11_ticks) (maxL := 3) (ret := (some .int)) (by decide) rfl ?_
  intro p e s m args below meth c s₁ B hml hno hv
  obtain ⟨hargs, hsz, hW, hK, hC, hf⟩ := hv
  subst hsz
  have hx := B.exec
  have hb := B.bytes
  have hr := B.returns
  have hts : ∀ w ∈ TT, w.before args s = true := fun w h => atoms_spec (ws := Cond.code yX11_ticks cX11_ticks 3 (some .int) :: TT) B.pre w (List.mem_cons_of_mem _ h)
  have hown : s.vm.findClass RX11 = some m.cls := findClass_of_methodNamed B.named
  have hlocks := B.notSynchronized
  replace hW := Wd_self (sz := s.heap.size) hW
  generalize hAe : Am Y s.heap.size = A at hW hC ⊢
  have hA : ∀ q : Nat, s.heap.size ≤ q → A q := fun q h => by rw [← hAe]; exact Or.inr h
  clear hAe
  have hS : va_S A s.heap s.heap [] := va_S.rf
  obtain ⟨ls, hE, hl⟩ := gm_entry m [.ref v0, .int v1] (n := 3) hargs (Nat.le_of_ble_eq_true rfl)
  rw [hE]
  have hl : lv_has ls 3 [(0, .ref v0), (1, .int v1)] := hl
  show W p l e rm_X11_ticks s m args below meth c s.heap [] 0 0 (vx_MQ below (va_Qi Kn (BG D cy A Y) A) (XX D cy A Y Xn) args s 3 18 A) (F0 m 0 ls [])
  unfold f_X11_ticks at hf
  refine lv_iload_n hx hb dX11_ticks_0 rfl (lv_at hl 1 rfl) ?_
  refine lv_i2l hx hb dX11_ticks_1 rfl ?_
  refine lv_lconst (v := 1) hx hb dX11_ticks_2 (by decide) ?_
  refine lv_ldc2 (v := 200) hx hb hown (hts _ kw_1258) dX11_ticks_3 ?_
  refine gm_ci (va_runS (As := [.long v1.toInt64, .long 1, .long 200]) (rest := []) ⟨hx, hb, hml, hown, hts⟩ (m_X11_isWithin l D cy tq _ Y _ _ _ _ _) (va_cwS 3 hts (good_S kw_460 kw_461 kw_1 kw_462) rfl rfl rfl (by decide +kernel) ⟨Nat.le_of_ble_eq_true rfl, Nat.le_of_ble_eq_true rfl⟩) (gm_preS hK hW hC hS hA hf) rfl rfl hl.1 rfl (lv_room (Nat.le_of_ble_eq_true rfl)) dX11_ticks_6 ⟨Nat.le_of_ble_eq_true rfl, Nat.le_of_ble_eq_true rfl⟩) hW hS hA (fun r2 M1 H locs hW hS hf => ?_)
  refine gx_cv (vx_runS (As := [.int r2]) (rest := []) ⟨hx, hb, hml, hown, hts⟩ (m_X11_needArguments l hlt D cy tq _ Y _ _ _ _) (va_cwS 1 hts (good_S kw_463 kw_464 kw_1 kw_465) rfl rfl rfl (by decide +kernel) ⟨Nat.le_of_ble_eq_true rfl, Nat.le_of_ble_eq_true rfl⟩) (gm_preS hK hW hC hS hA hf) rfl rfl hl.1 rfl (lv_room (Nat.le_of_ble_eq_true rfl)) dX11_ticks_9 ⟨Nat.le_of_ble_eq_true rfl, Nat.le_of_ble_eq_true rfl⟩) hW hS hA (fun E M9 H locs ce q9 hW hS hf h1 h2 h3 => gx_out hno hlocks hW hS hf h1 h2 h3 (Nat.le_of_ble_eq_true rfl) (Nat.le_of_ble_eq_true rfl)) (fun M3 H locs hW hS hf => ?_)
  refine lv_aload_n hx hb dX11_ticks_12 rfl (lv_at hl 0 rfl) ?_
  obtain ⟨k5, hf⟩ := hf
  refine gx_cv (vx_runV (As := []) (rest := []) ⟨hx, hb, hml, hown, hts⟩ (m_X11_needPower l hlt D cy tq _ Y _ _ _ _) (cwV 0 hts (good_V kw_842 kw_843 kw_1794 kw_1 kw_844) rfl rfl rfl (by decide +kernel) ⟨Nat.le_of_ble_eq_true rfl, Nat.le_of_ble_eq_true rfl⟩) (gm_preV hK hW hC hS hA k5 (by decide) (q := (RX11, TX11, 13)) rfl rfl hf) rfl rfl hl.1 rfl (lv_room (Nat.le_of_ble_eq_true rfl)) dX11_ticks_13 ⟨Nat.le_of_ble_eq_true rfl, Nat.le_of_ble_eq_true rfl⟩) hW hS hA (fun E M9 H locs ce q9 hW hS hf h1 h2 h3 => gx_out hno hlocks hW hS hf h1 h2 h3 (Nat.le_of_ble_eq_true rfl) (Nat.le_of_ble_eq_true rfl)) (fun M4 H locs hW hS hf => ?_)
  refine lv_aload_n hx hb dX11_ticks_16 rfl (lv_at hl 0 rfl) ?_
  obtain ⟨b6, hb6, hf⟩ := hf
  refine gm_getR (C := RX11) (T := TX11) (N := 13) (j := 12) hx hb hts inT_11 hown hK hW k5 (by decide) rfl (by decide) rfl (hts _ kw_306) rfl dX11_ticks_17 hb6 ?_
  obtain ⟨k7, hf⟩ := hf
  refine gm_getI (C := RX7) (T := TX7) (N := 9) (j := 0) hx hb hts inT_7 hown hK hW k7 (by decide) rfl (by decide) rfl (hts _ kw_272) rfl dX11_ticks_20 ?_
  refine lv_iload_n hx hb dX11_ticks_23 rfl (lv_at hl 1 rfl) ?_
  refine lv_iadd hx hb dX11_ticks_24 ?_
  refine lv_ldcw (v := 100000) hx hb hown (hts _ kw_1259) dX11_ticks_25 ?_
  have j36 : ∀ (y8 : Int32) (H : Heap) (locs : List Loc) (ls : Array Slot), lv_has ls 3 [(0, .ref v0), (1, .int v1)] → Wd D cy A Y M4 H → va_S A s.heap H locs → f_X11_ticks_36 Y v0 v1 Kn Xn M4 y8 → W p l e rm_X11_ticks s m args below meth c H locs 2 12 (vx_MQ below (va_Qi Kn (BG D cy A Y) A) (XX D cy A Y Xn) args s 3 18 A) (F0 m 36 ls [.int y8]) := by
    intro y8 H locs ls hl hW hS hf
    unfold f_X11_ticks_36 at hf
    refine gx_cv (vx_runS (As := [.int y8]) (rest := []) ⟨hx, hb, hml, hown, hts⟩ (m_X11_needState l hlt D cy tq _ Y _ _ _ _) (va_cwS 1 hts (good_S kw_402 kw_403 kw_1 kw_404) rfl rfl rfl (by decide +kernel) ⟨Nat.le_of_ble_eq_true rfl, Nat.le_of_ble_eq_true rfl⟩) (gm_preS hK hW hC hS hA hf) rfl rfl hl.1 rfl (lv_room (Nat.le_of_ble_eq_true rfl)) dX11_ticks_36 ⟨Nat.le_of_ble_eq_true rfl, Nat.le_of_ble_eq_true rfl⟩) hW hS hA (fun E M9 H locs ce q9 hW hS hf h1 h2 h3 => gx_out hno hlocks hW hS hf h1 h2 h3 (Nat.le_of_ble_eq_true rfl) (Nat.le_of_ble_eq_true rfl)) (fun M9 H locs hW hS hf => ?_)
    refine lv_iconst (v := 0) hx hb dX11_ticks_39 (by decide +kernel) ?_
    refine lv_istore_n (lv' := [(2, .int 0), (0, .ref v0), (1, .int v1)]) hx hb dX11_ticks_40 rfl hl (by decide) rfl (fun ls hl => ?_)
    obtain ⟨n41, hf⟩ := hf
    have lp41 : ∀ (n41 : Nat) (x10 : Int32) (M11 : Mm) (H : Heap) (locs : List Loc) (ls : Array Slot), lv_has ls 3 [(0, .ref v0), (1, .int v1), (2, .int x10)] → Wd D cy A Y M11 H → va_S A s.heap H locs → LOOP2 (L_X11_ticks_41 Y v0 v1 Kn) n41 x10 M11 → W p l e rm_X11_ticks s m args below meth c H locs 3 18 (vx_MQ below (va_Qi Kn (BG D cy A Y) A) (XX D cy A Y Xn) args s 3 18 A) (F0 m 41 ls []) := by
      intro n41
      induction n41 with
      | zero => intro x10 M11 H locs ls hl hW hS hf; exact hf.elim
      | succ n41 ih41 =>
        intro x10 M11 H locs ls hl hW hS hf
        replace hf : L_X11_ticks_41 Y v0 v1 Kn x10 M11 (LOOP2 (L_X11_ticks_41 Y v0 v1 Kn) n41) := hf
        unfold L_X11_ticks_41 at hf
        refine lv_iload_n hx hb dX11_ticks_41 rfl (lv_at hl 2 rfl) ?_
        refine lv_iload_n hx hb dX11_ticks_42 rfl (lv_at hl 1 rfl) ?_
        refine lv_icmp_ge (tgt := 65) hx hb dX11_ticks_43 (by decide) (fun c12 => ?_) (fun c12 => ?_)
        · replace hf := hf.1 c12
          refine lv_aload_n hx hb dX11_ticks_65 rfl (lv_at hl 0 rfl) ?_
          obtain ⟨b13, hb13, hf⟩ := hf
          refine gm_getR (C := RX11) (T := TX11) (N := 13) (j := 12) hx hb hts inT_11 hown hK hW k5 (by decide) rfl (by decide) rfl (hts _ kw_306) rfl dX11_ticks_66 hb13 ?_
          obtain ⟨k14, hf⟩ := hf
          refine gm_getI (C := RX7) (T := TX7) (N := 9) (j := 0) hx hb hts inT_7 hown hK hW k14 (by decide) rfl (by decide) rfl (hts _ kw_272) rfl dX11_ticks_69 ?_
          exact vx_ret (gm_iret hx hb hr hlocks hW hS hf dX11_ticks_72)
        · replace hf := hf.2 c12
          refine lv_aload_n hx hb dX11_ticks_46 rfl (lv_at hl 0 rfl) ?_
          obtain ⟨b15, hb15, hf⟩ := hf
          refine gm_getR (C := RX11) (T := TX11) (N := 13) (j := 12) hx hb hts inT_11 hown hK hW k5 (by decide) rfl (by decide) rfl (hts _ kw_306) rfl dX11_ticks_47 hb15 ?_
          obtain ⟨k18, hf⟩ := hf
          refine gm_ci (va_runV (As := []) (rest := []) ⟨hx, hb, hml, hown, hts⟩ (m_X7_tick l D cy tq _ Y _ _ _) (cwV 0 hts (good_V kw_1260 kw_1261 kw_1262 kw_11 kw_1263) rfl rfl rfl (by decide +kernel) ⟨Nat.le_of_ble_eq_true rfl, Nat.le_of_ble_eq_true rfl⟩) (gm_preV hK hW hC hS hA k18 (by decide) (q := (RX7, TX7, 9)) rfl rfl hf) rfl rfl hl.1 rfl (lv_room (Nat.le_of_ble_eq_true rfl)) dX11_ticks_50 ⟨Nat.le_of_ble_eq_true rfl, Nat.le_of_ble_eq_true rfl⟩) hW hS hA (fun r17 M16 H locs hW hS hf => ?_)
          refine lv_if_ne (tgt := 59) hx hb dX11_ticks_53 (by decide) (fun c19 => ?_) (fun c19 => ?_)
          · replace hf := hf.1 c19
            obtain ⟨x20, ex20⟩ : ∃ y : Int32, y = x10 + 1 := ⟨_, rfl⟩
            replace hf := hf x20 ex20
            refine lv_iinc (v := x20) (lv' := [(2, .int x20), (0, .ref v0), (1, .int v1)]) hx hb dX11_ticks_59 hl (k := 2) rfl (by rw [ex20]; rfl) (by decide) rfl (fun ls hl => ?_)
            refine lv_goto (tgt := 41) hx hb dX11_ticks_62 (by decide) ?_
            exact ih41 _ _ _ _ _ (lv_sub hl [1, 2, 0] rfl) hW hS hf
          · replace hf := hf.2 c19
            refine lv_bipush (v := -3) hx hb dX11_ticks_56 (by decide +kernel) ?_
            exact vx_ret (gm_iret hx hb hr hlocks hW hS hf dX11_ticks_58)
    exact lp41 n41 _ _ _ _ _ (lv_sub hl [1, 2, 0] rfl) hW hS hf
  refine lv_icmp_gt (tgt := 35) hx hb dX11_ticks_28 (by decide) (fun c21 => ?_) (fun c21 => ?_)
  · replace hf := hf.1 c21
    refine lv_iconst (v := 0) hx hb dX11_ticks_35 (by decide +kernel) ?_
    exact j36 _ _ _ _ (lv_sub hl [0, 1] rfl) hW hS hf
  · replace hf := hf.2 c21
    refine lv_iconst (v := 1) hx hb dX11_ticks_31 (by decide +kernel) ?_
    refine lv_goto (tgt := 36) hx hb dX11_ticks_32 (by decide) ?_
    exact j36 _ _ _ _ (lv_sub hl [0, 1] rfl) hW hS hf

abbrev rm_X11_crash : Room := { frames := 8, cells := 2, slots := 12, locals := 130 }
def f_X11_crash_39 (Y : Ly) (Kn : Mm → Prop) (M8 : Mm) (b9 : Nat) (y10 : Int32) : Prop :=
  yK Y b9 = 3 ∧ (bz y10 ∧ (∀ M13 : Mm, M13 = sI M8 b9 (m1 (mI M8 b9) 3 y10) → (Kn M13)))
def f_X11_crash (Y : Ly) (v0 : Nat) (v1 : Int32) (M : Mm) (Kn : Mm → Prop) (Xn : String → Mm → Prop) : Prop :=
  f_X11_isWithin Y v1.toInt64 (-1) 1000 M (fun r2 M1 => (f_X11_needArguments Y r2 M1 (fun M3 => (yK Y v0 = 11 ∧ (f_X11_needPower Y v0 M3 (fun M4 => (∃ b6 : Nat, mR M4 v0 6 = some b6 ∧ (yK Y b6 = 3 ∧ (∀ M8 : Mm, M8 = sI M4 b6 (m1 (mI M4 b6) 2 v1) → (∃ b9 : Nat, mR M8 v0 6 = some b9 ∧ ((¬ v1 = 0 → (f_X11_crash_39 Y Kn M8 b9 0)) ∧ (v1 = 0 → (f_X11_crash_39 Y Kn M8 b9 1)))))))) Xn))) Xn))
set_option maxHeartbeats 4000000 in
set_option maxRecDepth 100000 in
theorem m_X11_crash (l : Launch) (hlt : l.stackTraces = false) (D : va_G) (cy : Cy) (tq sz : Nat) (Y : Ly) (v0 : Nat) (v1 : Int32) (M : Mm) (Kn : Mm → Prop) (Xn : String → Mm → Prop) : vx_Met l yX11_crash (Cond.code yX11_crash cX11_crash 2 none :: TT) rm_X11_crash (PcG D cy tq [.ref v0, .int v1] sz Y M (f_X11_crash Y v0 v1 M Kn Xn)) (va_Qv Kn (BG D cy (Am Y sz) Y) (Am Y sz)) (XX D cy (Am Y sz) Y Xn) 2 12 (Am Y sz) := by
  refine vx_ofW (cc := cX11_crash) (maxL := 2) (ret := none) (by decide) rfl ?_
  intro p e s m args below meth c s₁ B hml hno hv
  obtain ⟨hargs, hsz, hW, hK, hC, hf⟩ := hv
  subst hsz
  have hx := B.exec
  have hb := B.bytes
  have hr := B.returns
  have hts : ∀ w ∈ TT, w.before args s = true := fun w h => atoms_spec (ws := Cond.code yX11_crash cX11_crash 2 none :: TT) B.pre w (List.mem_cons_of_mem _ h)
  have hown : s.vm.findClass RX11 = some m.cls := findClass_of_methodNamed B.named
  have hlocks := B.notSynchronized
  replace hW := Wd_self (sz := s.heap.size) hW
  generalize hAe : Am Y s.heap.size = A at hW hC ⊢
  have hA : ∀ q : Nat, s.heap.size ≤ q → A q := fun q h => by rw [← hAe]; exact Or.inr h
  clear hAe
  have hS : va_S A s.heap s.heap [] := va_S.rf
  obtain ⟨ls, hE, hl⟩ := gm_entry m [.ref v0, .int v1] (n := 2) hargs (Nat.le_of_ble_eq_true rfl)
  rw [hE]
  have hl : lv_has ls 2 [(0, .ref v0), (1, .int v1)] := hl
  show W p l e rm_X11_crash s m args below meth c s.heap [] 0 0 (vx_MQ below (va_Qv Kn (BG D cy A Y) A) (XX D cy A Y Xn) args s 2 12 A) (F0 m 0 ls [])
  unfold f_X11_crash at hf
  refine lv_iload_n hx hb dX11_crash_0 rfl (lv_at hl 1 rfl) ?_
  refine lv_i2l hx hb dX11_crash_1 rfl ?_
  refine lv_ldc2 (v := -1) hx hb hown (hts _ kw_495) dX11_crash_2 ?_
  refine lv_ldc2 (v := 1000) hx hb hown (hts _ kw_1274) dX11_crash_5 ?_
  refine gm_ci (va_runS (As := [.long v1.toInt64, .long (-1), .long 1000]) (rest := []) ⟨hx, hb, hml, hown, hts⟩ (m_X11_isWithin l D cy tq _ Y _ _ _ _ _) (va_cwS 3 hts (good_S kw_460 kw_461 kw_1 kw_462) rfl rfl rfl (by decide +kernel) ⟨Nat.le_of_ble_eq_true rfl, Nat.le_of_ble_eq_true rfl⟩) (gm_preS hK hW hC hS hA hf) rfl rfl hl.1 rfl (lv_room (Nat.le_of_ble_eq_true rfl)) dX11_crash_8 ⟨Nat.le_of_ble_eq_true rfl, Nat.le_of_ble_eq_true rfl⟩) hW hS hA (fun r2 M1 H locs hW hS hf => ?_)
  refine gx_cv (vx_runS (As := [.int r2]) (rest := []) ⟨hx, hb, hml, hown, hts⟩ (m_X11_needArguments l hlt D cy tq _ Y _ _ _ _) (va_cwS 1 hts (good_S kw_463 kw_464 kw_1 kw_465) rfl rfl rfl (by decide +kernel) ⟨Nat.le_of_ble_eq_true rfl, Nat.le_of_ble_eq_true rfl⟩) (gm_preS hK hW hC hS hA hf) rfl rfl hl.1 rfl (lv_room (Nat.le_of_ble_eq_true rfl)) dX11_crash_11 ⟨Nat.le_of_ble_eq_true rfl, Nat.le_of_ble_eq_true rfl⟩) hW hS hA (fun E M9 H locs ce q9 hW hS hf h1 h2 h3 => gx_out hno hlocks hW hS hf h1 h2 h3 (Nat.le_of_ble_eq_true rfl) (Nat.le_of_ble_eq_true rfl)) (fun M3 H locs hW hS hf => ?_)
  refine lv_aload_n hx hb dX11_crash_14 rfl (lv_at hl 0 rfl) ?_
  obtain ⟨k5, hf⟩ := hf
  refine gx_cv (vx_runV (As := []) (rest := []) ⟨hx, hb, hml, hown, hts⟩ (m_X11_needPower l hlt D cy tq _ Y _ _ _ _) (cwV 0 hts (good_V kw_842 kw_843 kw_1794 kw_1 kw_844) rfl rfl rfl (by decide +kernel) ⟨Nat.le_of_ble_eq_true rfl, Nat.le_of_ble_eq_true rfl⟩) (gm_preV hK hW hC hS hA k5 (by decide) (q := (RX11, TX11, 13)) rfl rfl hf) rfl rfl hl.1 rfl (lv_room (Nat.le_of_ble_eq_true rfl)) dX11_crash_15 ⟨Nat.le_of_ble_eq_true rfl, Nat.le_of_ble_eq_true rfl⟩) hW hS hA (fun E M9 H locs ce q9 hW hS hf h1 h2 h3 => gx_out hno hlocks hW hS hf h1 h2 h3 (Nat.le_of_ble_eq_true rfl) (Nat.le_of_ble_eq_true rfl)) (fun M4 H locs hW hS hf => ?_)
  refine lv_aload_n hx hb dX11_crash_18 rfl (lv_at hl 0 rfl) ?_
  obtain ⟨b6, hb6, hf⟩ := hf
  refine gm_getR (C := RX11) (T := TX11) (N := 13) (j := 6) hx hb hts inT_11 hown hK hW k5 (by decide) rfl (by decide) rfl (hts _ kw_300) rfl dX11_crash_19 hb6 ?_
  refine lv_iload_n hx hb dX11_crash_22 rfl (lv_at hl 1 rfl) ?_
  obtain ⟨k7, hf⟩ := hf
  refine gm_putI (C := RX3) (T := TX3) (N := 4) (j := 2) hx hb hts inT_3 tyX3 tyX3_ok nmX3 hown hK hW hS k7 (by decide) rfl (by decide) rfl (hts _ kw_150) rfl rfl rfl rfl dX11_crash_23 (fun H locs M8 eM8 hW hS => ?_)
  replace hf := hf M8 eM8
  refine lv_aload_n hx hb dX11_crash_26 rfl (lv_at hl 0 rfl) ?_
  obtain ⟨b9, hb9, hf⟩ := hf
  refine gm_getR (C := RX11) (T := TX11) (N := 13) (j := 6) hx hb hts inT_11 hown hK hW k5 (by decide) rfl (by decide) rfl (hts _ kw_300) rfl dX11_crash_27 hb9 ?_
  refine lv_iload_n hx hb dX11_crash_30 rfl (lv_at hl 1 rfl) ?_
  have j39 : ∀ (y10 : Int32) (H : Heap) (locs : List Loc) (ls : Array Slot), lv_has ls 2 [] → Wd D cy A Y M8 H → va_S A s.heap H locs → f_X11_crash_39 Y Kn M8 b9 y10 → W p l e rm_X11_crash s m args below meth c H locs 2 12 (vx_MQ below (va_Qv Kn (BG D cy A Y) A) (XX D cy A Y Xn) args s 2 12 A) (F0 m 39 ls [.int y10, .ref b9]) := by
    intro y10 H locs ls hl hW hS hf
    unfold f_X11_crash_39 at hf
    obtain ⟨k11, hf⟩ := hf
    obtain ⟨z12, hf⟩ := hf
    refine gm_putI (C := RX3) (T := TX3) (N := 4) (j := 3) hx hb hts inT_3 tyX3 tyX3_ok nmX3 hown hK hW hS k11 (by decide) rfl (by decide) rfl (hts _ kw_152) rfl rfl (bz_n z12) (bz_f z12) dX11_crash_39 (fun H locs M13 eM13 hW hS => ?_)
    replace hf := hf M13 eM13
    exact vx_ret (gm_vret hx hb hr hlocks hW hS hf dX11_crash_42)
  refine lv_if_ne (tgt := 38) hx hb dX11_crash_31 (by decide) (fun c14 => ?_) (fun c14 => ?_)
  · replace hf := hf.1 c14
    refine lv_iconst (v := 0) hx hb dX11_crash_38 (by decide +kernel) ?_
    exact j39 _ _ _ _ (lv_sub hl [] rfl) hW hS hf
  · replace hf := hf.2 c14
    refine lv_iconst (v := 1) hx hb dX11_crash_34 (by decide +kernel) ?_
    refine lv_goto (tgt := 39) hx hb dX11_crash_35 (by decide) ?_
    exact j39 _ _ _ _ (lv_sub hl [] rfl) hW hS hf

abbrev rm_X11_free : Room := { frames := 8, cells := 1, slots := 6, locals := 150 }
def f_X11_free (Y : Ly) (v0 : Nat) (M : Mm) (Kn : Int32 → Mm → Prop) (Xn : String → Mm → Prop) : Prop :=
  yK Y v0 = 11 ∧ (f_X11_needPower Y v0 M (fun M1 => (∃ b3 : Nat, mR M1 v0 10 = some b3 ∧ (yK Y b3 = 9 ∧ (f_X9_countFree Y b3 M1 (fun r5 M4 => (Kn r5 M4)))))) Xn)
set_option maxHeartbeats 4000000 in
set_option maxRecDepth 100000 in
theorem m_X11_free (l : Launch) (hlt : l.stackTraces = false) (D : va_G) (cy : Cy) (tq sz : Nat) (Y : Ly) (v0 : Nat) (M : Mm) (Kn : Int32 → Mm → Prop) (Xn : String → Mm → Prop) : vx_Met l yX11_free (Cond.code yX11_free cX11_free 1 (some .int) :: TT) rm_X11_free (PcG D cy tq [.ref v0] sz Y M (f_X11_free Y v0 M Kn Xn)) (va_Qi Kn (BG D cy (Am Y sz) Y) (Am Y sz)) (XX D cy (Am Y sz) Y Xn) 1 6 (Am Y sz) := by
  refine vx_ofW (cc := cX11_free) (maxL := 1) (ret := (some .int)) (by decide) rfl ?_
  intro p e s m args below meth c s₁ B hml hno hv
  obtain ⟨hargs, hsz, hW, hK, hC, hf⟩ := hv
  subst hsz
  have hx := B.exec
  have hb := B.bytes
  have hr := B.returns
  have hts : ∀ w ∈ TT, w.before args s = true := fun w h => atoms_spec (ws := Cond.code yX11_free cX11_free 1 (some .int) :: TT) B.pre w (List.mem_cons_of_mem _ h)
  have hown : s.vm.findClass RX11 = some m.cls := findClass_of_methodNamed B.named
  have hlocks := B.notSynchronized
  replace hW := Wd_self (sz := s.heap.size) hW
  generalize hAe : Am Y s.heap.size = A at hW hC ⊢
  have hA : ∀ q : Nat, s.heap.size ≤ q → A q := fun q h => by rw [← hAe]; exact Or.inr h
  clear hAe
  have hS : va_S A s.heap s.heap [] := va_S.rf
  obtain ⟨ls, hE, hl⟩ := gm_entry m [.ref v0] (n := 1) hargs (Nat.le_of_ble_eq_true rfl)
  rw [hE]
  have hl : lv_has ls 1 [(0, .ref v0)] := hl
  show W p l e rm_X11_free s m args below meth c s.heap [] 0 0 (vx_MQ below (va_Qi Kn (BG D cy A Y) A) (XX D cy A Y Xn) args s 1 6 A) (F0 m 0 ls [])
  unfold f_X11_free at hf
  refine lv_aload_n hx hb dX11_free_0 rfl (lv_at hl 0 rfl) ?_
  obtain ⟨k2, hf⟩ := hf
  refine gx_cv (vx_runV (As := []) (rest := []) ⟨hx, hb, hml, hown, hts⟩ (m_X11_needPower l hlt D cy tq _ Y _ _ _ _) (cwV 0 hts (good_V kw_842 kw_843 kw_1794 kw_1 kw_844) rfl rfl rfl (by decide +kernel) ⟨Nat.le_of_ble_eq_true rfl, Nat.le_of_ble_eq_true rfl⟩) (gm_preV hK hW hC hS hA k2 (by decide) (q := (RX11, TX11, 13)) rfl rfl hf) rfl rfl hl.1 rfl (lv_room (Nat.le_of_ble_eq_true rfl)) dX11_free_1 ⟨Nat.le_of_ble_eq_true rfl, Nat.le_of_ble_eq_true rfl⟩) hW hS hA (fun E M9 H locs ce q9 hW hS hf h1 h2 h3 => gx_out hno hlocks hW hS hf h1 h2 h3 (Nat.le_of_ble_eq_true rfl) (Nat.le_of_ble_eq_true rfl)) (fun M1 H locs hW hS hf => ?_)
  refine lv_aload_n hx hb dX11_free_4 rfl (lv_at hl 0 rfl) ?_
  obtain ⟨b3, hb3, hf⟩ := hf
  refine gm_getR (C := RX11) (T := TX11) (N := 13) (j := 10) hx hb hts inT_11 hown hK hW k2 (by decide) rfl (by decide) rfl (hts _ kw_304) rfl dX11_free_5 hb3 ?_
  obtain ⟨k6, hf⟩ := hf
  refine gm_ci (va_runV (As := []) (rest := []) ⟨hx, hb, hml, hown, hts⟩ (m_X9_countFree l D cy tq _ Y _ _ _) (cwV 0 hts (good_V kw_1282 kw_1283 kw_1284 kw_8 kw_1285) rfl rfl rfl (by decide +kernel) ⟨Nat.le_of_ble_eq_true rfl, Nat.le_of_ble_eq_true rfl⟩) (gm_preV hK hW hC hS hA k6 (by decide) (q := (RX9, TX9, 7)) rfl rfl hf) rfl rfl hl.1 rfl (lv_room (Nat.le_of_ble_eq_true rfl)) dX11_free_8 ⟨Nat.le_of_ble_eq_true rfl, Nat.le_of_ble_eq_true rfl⟩) hW hS hA (fun r5 M4 H locs hW hS hf => ?_)
  exact vx_ret (gm_iret hx hb hr hlocks hW hS hf dX11_free_11)

abbrev rm_X11_audit : Room := { frames := 8, cells := 1, slots := 6, locals := 231 }
def f_X11_audit (Y : Ly) (v0 : Nat) (M : Mm) (Kn : Int32 → Mm → Prop) (Xn : String → Mm → Prop) : Prop :=
  yK Y v0 = 11 ∧ (f_X11_needPower Y v0 M (fun M1 => (∃ b3 : Nat, mR M1 v0 10 = some b3 ∧ (yK Y b3 = 9 ∧ (f_X9_countFaults Y b3 M1 (fun r5 M4 => (Kn r5 M4)))))) Xn)
set_option maxHeartbeats 4000000 in
set_option maxRecDepth 100000 in
theorem m_X11_audit (l : Launch) (hlt : l.stackTraces = false) (D : va_G) (cy : Cy) (tq sz : Nat) (Y : Ly) (v0 : Nat) (M : Mm) (Kn : Int32 → Mm → Prop) (Xn : String → Mm → Prop) : vx_Met l yX11_audit (Cond.code yX11_audit cX11_audit 1 (some .int) :: TT) rm_X11_audit (PcG D cy tq [.ref v0] sz Y M (f_X11_audit Y v0 M Kn Xn)) (va_Qi Kn (BG D cy (Am Y sz) Y) (Am Y sz)) (XX D cy (Am Y sz) Y Xn) 1 6 (Am Y sz) := by
  refine vx_ofW (cc := cX11_audit) (maxL := 1) (ret := (some .int)) (by decide) rfl ?_
  intro p e s m args below meth c s₁ B hml hno hv
  obtain ⟨hargs, hsz, hW, hK, hC, hf⟩ := hv
  subst hsz
  have hx := B.exec
  have hb := B.bytes
  have hr := B.returns
  have hts : ∀ w ∈ TT, w.before args s = true := fun w h => atoms_spec (ws := Cond.code yX11_audit cX11_audit 1 (some .int) :: TT) B.pre w (List.mem_cons_of_mem _ h)
  have hown : s.vm.findClass RX11 = some m.cls := findClass_of_methodNamed B.named
  have hlocks := B.notSynchronized
  replace hW := Wd_self (sz := s.heap.size) hW
  generalize hAe : Am Y s.heap.size = A at hW hC ⊢
  have hA : ∀ q : Nat, s.heap.size ≤ q → A q := fun q h => by rw [← hAe]; exact Or.inr h
  clear hAe
  have hS : va_S A s.heap s.heap [] := va_S.rf
  obtain ⟨ls, hE, hl⟩ := gm_entry m [.ref v0] (n := 1) hargs (Nat.le_of_ble_eq_true rfl)
  rw [hE]
  have hl : lv_has ls 1 [(0, .ref v0)] := hl
  show W p l e rm_X11_audit s m args below meth c s.heap [] 0 0 (vx_MQ below (va_Qi Kn (BG D cy A Y) A) (XX D cy A Y Xn) args s 1 6 A) (F0 m 0 ls [])
  unfold f_X11_audit at hf
  refine lv_aload_n hx hb dX11_audit_0 rfl (lv_at hl 0 rfl) ?_
  obtain ⟨k2, hf⟩ := hf
  refine gx_cv (vx_runV (As := []) (rest := []) ⟨hx, hb, hml, hown, hts⟩ (m_X11_needPower l hlt D cy tq _ Y _ _ _ _) (cwV 0 hts (good_V kw_842 kw_843 kw_1794 kw_1 kw_844) rfl rfl rfl (by decide +kernel) ⟨Nat.le_of_ble_eq_true rfl, Nat.le_of_ble_eq_true rfl⟩) (gm_preV hK hW hC hS hA k2 (by decide) (q := (RX11, TX11, 13)) rfl rfl hf) rfl rfl hl.1 rfl (lv_room (Nat.le_of_ble_eq_true rfl)) dX11_audit_1 ⟨Nat.le_of_ble_eq_true rfl, Nat.le_of_ble_eq_true rfl⟩) hW hS hA (fun E M9 H locs ce q9 hW hS hf h1 h2 h3 => gx_out hno hlocks hW hS hf h1 h2 h3 (Nat.le_of_ble_eq_true rfl) (Nat.le_of_ble_eq_true rfl)) (fun M1 H locs hW hS hf => ?_)
  refine lv_aload_n hx hb dX11_audit_4 rfl (lv_at hl 0 rfl) ?_
  obtain ⟨b3, hb3, hf⟩ := hf
  refine gm_getR (C := RX11) (T := TX11) (N := 13) (j := 10) hx hb hts inT_11 hown hK hW k2 (by decide) rfl (by decide) rfl (hts _ kw_304) rfl dX11_audit_5 hb3 ?_
  obtain ⟨k6, hf⟩ := hf
  refine gm_ci (va_runV (As := []) (rest := []) ⟨hx, hb, hml, hown, hts⟩ (m_X9_countFaults l D cy tq _ Y _ _ _) (cwV 0 hts (good_V kw_1293 kw_1294 kw_1295 kw_8 kw_1296) rfl rfl rfl (by decide +kernel) ⟨Nat.le_of_ble_eq_true rfl, Nat.le_of_ble_eq_true rfl⟩) (gm_preV hK hW hC hS hA k6 (by decide) (q := (RX9, TX9, 7)) rfl rfl hf) rfl rfl hl.1 rfl (lv_room (Nat.le_of_ble_eq_true rfl)) dX11_audit_8 ⟨Nat.le_of_ble_eq_true rfl, Nat.le_of_ble_eq_true rfl⟩) hW hS hA (fun r5 M4 H locs hW hS hf => ?_)
  exact vx_ret (gm_iret hx hb hr hlocks hW hS hf dX11_audit_11)
