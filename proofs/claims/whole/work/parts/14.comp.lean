/-! by gen.py: what the methods do, and that they do it -/
abbrev rm_X2_init : Room := { frames := 3, cells := 7, slots := 412130, locals := 100 }
def f_X2_init (Y : Ly) (v0 : Nat) (v1 : Nat) (M : Mm) (Kn : Ly → Mm → Prop) : Prop :=
  ∀ q1 : Nat, yK Y q1 = 0 → ∀ Y2 : Ly, Y2 = yNew Y q1 10 0 → ∀ M3 : Mm, M3 = mZ M q1 → (f_X10_init Y2 q1 M3 (fun Y4 M5 => (yK Y4 v0 = 2 ∧ (∀ M7 : Mm, M7 = sR M5 v0 (m1 (mR M5 v0) 2 (some q1)) → (∀ q8 : Nat, yK Y4 q8 = 0 → ∀ Y9 : Ly, Y9 = yNew Y4 q8 101 60 → ∀ M10 : Mm, M10 = mZ M7 q8 → (yK Y9 v0 = 2 ∧ (∀ M12 : Mm, M12 = sR M10 v0 (m1 (mR M10 v0) 10 (some q8)) → (∀ q13 : Nat, yK Y9 q13 = 0 → ∀ Y14 : Ly, Y14 = yNew Y9 q13 101 60 → ∀ M15 : Mm, M15 = mZ M12 q13 → (yK Y14 v0 = 2 ∧ (∀ M17 : Mm, M17 = sR M15 v0 (m1 (mR M15 v0) 11 (some q13)) → (∀ q18 : Nat, yK Y14 q18 = 0 → ∀ Y19 : Ly, Y19 = yNew Y14 q18 101 60 → ∀ M20 : Mm, M20 = mZ M17 q18 → (yK Y19 v0 = 2 ∧ (∀ M22 : Mm, M22 = sR M20 v0 (m1 (mR M20 v0) 12 (some q18)) → (∀ M23 : Mm, M23 = sR M22 v0 (m1 (mR M22 v0) 0 (some v1)) → (yK Y19 v1 = 9 ∧ (∃ b25 : Nat, mR M23 v1 0 = some b25 ∧ (yK Y19 b25 = 3 ∧ (∃ b27 : Nat, mR M23 b25 0 = some b27 ∧ (∀ M28 : Mm, M28 = sR M23 v0 (m1 (mR M23 v0) 1 (some b27)) → (∃ b29 : Nat, mR M28 v0 1 = some b29 ∧ (yK Y19 b29 = 100 ∧ (∀ x32 : Int32, x32 = (2 * ((nI (yN Y19 b29)) / 7)) + 1 → (¬ x32 < 0 ∧ (x32.toNatClampNeg ≤ 74899 ∧ (∀ q35 : Nat, yK Y19 q35 = 0 → ∀ Y36 : Ly, Y36 = yNew Y19 q35 101 x32.toNatClampNeg → ∀ M37 : Mm, M37 = mZ M28 q35 → (yK Y36 v0 = 2 ∧ (∀ M39 : Mm, M39 = sR M37 v0 (m1 (mR M37 v0) 3 (some q35)) → (¬ x32 < 0 ∧ (x32.toNatClampNeg ≤ 74899 ∧ (∀ q42 : Nat, yK Y36 q42 = 0 → ∀ Y43 : Ly, Y43 = yNew Y36 q42 101 x32.toNatClampNeg → ∀ M44 : Mm, M44 = mZ M39 q42 → (yK Y43 v0 = 2 ∧ (∀ M46 : Mm, M46 = sR M44 v0 (m1 (mR M44 v0) 4 (some q42)) → (∃ b47 : Nat, mR M46 v0 1 = some b47 ∧ (yK Y43 b47 = 100 ∧ (¬ (nI (yN Y43 b47)) < 0 ∧ ((nI (yN Y43 b47)).toNatClampNeg ≤ 262144 ∧ (∀ q51 : Nat, yK Y43 q51 = 0 → ∀ Y52 : Ly, Y52 = yNew Y43 q51 100 ((nI (yN Y43 b47)).toNatClampNeg) → ∀ M53 : Mm, M53 = mZ M46 q51 → (yK Y52 v0 = 2 ∧ (∀ M55 : Mm, M55 = sR M53 v0 (m1 (mR M53 v0) 6 (some q51)) → (Kn Y52 M55))))))))))))))))))))))))))))))))))))))))
set_option maxHeartbeats 4000000 in
set_option maxRecDepth 100000 in
theorem m_X2_init (l : Launch) (D : va_G) (cy : Cy) (tq sz : Nat) (Y : Ly) (v0 : Nat) (v1 : Nat) (M : Mm) (Kn : Ly → Mm → Prop) : Met l yX2_init (Cond.code yX2_init cX2_init 3 none :: TT) rm_X2_init (PcG D cy tq [.ref v0, .ref v1] sz Y M (f_X2_init Y v0 v1 M Kn)) (QA D cy (Am Y sz) Kn) 7 412130 (Am Y sz) := by
  refine Met.ofW (cc := cX2_init) (maxL := 3) (ret := none) (by decide) rfl ?_
  intro p e s m args below meth c s₁ B hml hv
  obtain ⟨hargs, hsz, hW, hK, hC, hf⟩ := hv
  subst hsz
  have hx := B.exec
  have hb := B.bytes
  have hr := B.returns
  have hts : ∀ w ∈ TT, w.before args s = true := fun w h => atoms_spec (ws := Cond.code yX2_init cX2_init 3 none :: TT) B.pre w (List.mem_cons_of_mem _ h)
  have hown : s.vm.findClass RX2 = some m.cls := findClass_of_methodNamed B.named
  have hlocks := B.notSynchronized
  have hin : meth.name = "<init>" := (name_of_methodNamed B.named B.method).1
  replace hW := Wd_self (sz := s.heap.size) hW
  generalize hAe : Am Y s.heap.size = A at hW hC ⊢
  have hA : ∀ q : Nat, s.heap.size ≤ q → A q := fun q h => by rw [← hAe]; exact Or.inr h
  clear hAe
  have hS : va_S A s.heap s.heap [] := va_S.rf
  obtain ⟨ls, hE, hl⟩ := gm_entry m [.ref v0, .ref v1] (n := 3) hargs (Nat.le_of_ble_eq_true rfl)
  rw [hE]
  have hl : lv_has ls 3 [(0, .ref v0), (1, .ref v1)] := hl
  show W p l e rm_X2_init s m args below meth c s.heap [] 0 0 (MQ below (QA D cy A Kn) args s 7 412130 A) (F0 m 0 ls [])
  unfold f_X2_init at hf
  refine lv_aload_n hx hb dX2_init_0 rfl (lv_at hl 0 rfl) ?_
  refine W.objInit hx hb hown (hts _ kw_237) (hts _ kw_36) (hts _ kw_37) rfl (by rw [hml]; exact hl.1) rfl dX2_init_1 (Nat.le_of_ble_eq_true rfl) (Nat.le_of_ble_eq_true rfl) ?_
  refine W.eq (g2 := F0 m 4 ls []) rfl ?_
  refine lv_aload_n hx hb dX2_init_4 rfl (lv_at hl 0 rfl) ?_
  refine gm_new (ci := 10) hx hb hts inT_10 tyX10 tyX10_ok hown (hts _ kw_238) (hts _ kw_62) (hts _ kw_4) hK hW hS hA rfl (by decide) rfl def_10 (by show _ ≤ 7; omega) (by show _ ≤ 412130; omega) dX2_init_5 (fun q1 H Y2 M3 h0q1 eY2 eM3 hW hS => ?_)
  replace hf := hf q1 h0q1 Y2 eY2 M3 eM3
  refine lv_dup hx hb dX2_init_8 rfl ?_
  refine gm_ca (va_runIN (As := []) (rest := [.ref q1, .ref v0]) ⟨hx, hb, hml, hown, hts⟩ (m_X10_init l D cy tq _ Y2 _ _ _) ⟨va_cnB 0 hts (good_C kw_64) rfl rfl rfl hC.2.2.2.2.2.2.2.2.2.2.1 (hts _ kw_4) (by decide +kernel) ⟨Nat.le_of_ble_eq_true rfl, Nat.le_of_ble_eq_true rfl⟩, rfl, hts _ kw_63⟩ (gm_preS hK hW hC hS hA hf) rfl rfl hl.1 rfl (lv_room (Nat.le_of_ble_eq_true rfl)) dX2_init_9 ⟨by show _ ≤ 7; omega, by show _ ≤ 412130; omega⟩) hW hS hA (fun Y4 M5 H locs hW hS hf => ?_)
  obtain ⟨k6, hf⟩ := hf
  refine gm_putFR (C := RX2) (T := TX2) (N := 13) (j := 2) hx hb hts inT_2 tyX2 tyX2_ok nmX2 hown hK hW hS k6 (by decide) rfl (by decide) rfl (hts _ kw_241) rfl rfl hin rfl rfl rfl dX2_init_12 (fun H locs M7 eM7 hW hS => ?_)
  replace hf := hf M7 eM7
  refine lv_aload_n hx hb dX2_init_15 rfl (lv_at hl 0 rfl) ?_
  refine lv_bipush (v := 60) hx hb dX2_init_16 (by decide +kernel) ?_
  refine gm_newi hx hb (hts _ kw_129) hK hW hS hA (n := 60) 60 (by decide +kernel) (by decide +kernel) (Nat.le_refl _) (by decide) (by show _ ≤ 7; omega) (by show _ ≤ 412130; omega) dX2_init_18 (fun q8 H Y9 M10 h0q8 eY9 eM10 hW hS => ?_)
  replace hf := hf q8 h0q8 Y9 eY9 M10 eM10
  obtain ⟨k11, hf⟩ := hf
  refine gm_putFR (C := RX2) (T := TX2) (N := 13) (j := 10) hx hb hts inT_2 tyX2 tyX2_ok nmX2 hown hK hW hS k11 (by decide) rfl (by decide) rfl (hts _ kw_249) rfl rfl hin rfl rfl rfl dX2_init_20 (fun H locs M12 eM12 hW hS => ?_)
  replace hf := hf M12 eM12
  refine lv_aload_n hx hb dX2_init_23 rfl (lv_at hl 0 rfl) ?_
  refine lv_bipush (v := 60) hx hb dX2_init_24 (by decide +kernel) ?_
  refine gm_newi hx hb (hts _ kw_129) hK hW hS hA (n := 60) 60 (by decide +kernel) (by decide +kernel) (Nat.le_refl _) (by decide) (by show _ ≤ 7; omega) (by show _ ≤ 412130; omega) dX2_init_26 (fun q13 H Y14 M15 h0q13 eY14 eM15 hW hS => ?_)
  replace hf := hf q13 h0q13 Y14 eY14 M15 eM15
  obtain ⟨k16, hf⟩ := hf
  refine gm_putFR (C := RX2) (T := TX2) (N := 13) (j := 11) hx hb hts inT_2 tyX2 tyX2_ok nmX2 hown hK hW hS k16 (by decide) rfl (by decide) rfl (hts _ kw_250) rfl rfl hin rfl rfl rfl dX2_init_28 (fun H locs M17 eM17 hW hS => ?_)
  replace hf := hf M17 eM17
  refine lv_aload_n hx hb dX2_init_31 rfl (lv_at hl 0 rfl) ?_
  refine lv_bipush (v := 60) hx hb dX2_init_32 (by decide +kernel) ?_
  refine gm_newi hx hb (hts _ kw_129) hK hW hS hA (n := 60) 60 (by decide +kernel) (by decide +kernel) (Nat.le_refl _) (by decide) (by show _ ≤ 7; omega) (by show _ ≤ 412130; omega) dX2_init_34 (fun q18 H Y19 M20 h0q18 eY19 eM20 hW hS => ?_)
  replace hf := hf q18 h0q18 Y19 eY19 M20 eM20
  obtain ⟨k21, hf⟩ := hf
  refine gm_putFR (C := RX2) (T := TX2) (N := 13) (j := 12) hx hb hts inT_2 tyX2 tyX2_ok nmX2 hown hK hW hS k21 (by decide) rfl (by decide) rfl (hts _ kw_251) rfl rfl hin rfl rfl rfl dX2_init_36 (fun H locs M22 eM22 hW hS => ?_)
  replace hf := hf M22 eM22
  refine lv_aload_n hx hb dX2_init_39 rfl (lv_at hl 0 rfl) ?_
  refine lv_aload_n hx hb dX2_init_40 rfl (lv_at hl 1 rfl) ?_
  refine gm_putFR (C := RX2) (T := TX2) (N := 13) (j := 0) hx hb hts inT_2 tyX2 tyX2_ok nmX2 hown hK hW hS k21 (by decide) rfl (by decide) rfl (hts _ kw_239) rfl rfl hin rfl rfl rfl dX2_init_41 (fun H locs M23 eM23 hW hS => ?_)
  replace hf := hf M23 eM23
  refine lv_aload_n hx hb dX2_init_44 rfl (lv_at hl 0 rfl) ?_
  refine lv_aload_n hx hb dX2_init_45 rfl (lv_at hl 1 rfl) ?_
  obtain ⟨k24, hf⟩ := hf
  obtain ⟨b25, hb25, hf⟩ := hf
  refine gm_getR (C := RX9) (T := TX9) (N := 7) (j := 0) hx hb hts inT_9 hown hK hW k24 (by decide) rfl (by decide) rfl (hts _ kw_214) rfl dX2_init_46 hb25 ?_
  obtain ⟨k26, hf⟩ := hf
  obtain ⟨b27, hb27, hf⟩ := hf
  refine gm_getR (C := RX3) (T := TX3) (N := 4) (j := 0) hx hb hts inT_3 hown hK hW k26 (by decide) rfl (by decide) rfl (hts _ kw_143) rfl dX2_init_49 hb27 ?_
  refine gm_putFR (C := RX2) (T := TX2) (N := 13) (j := 1) hx hb hts inT_2 tyX2 tyX2_ok nmX2 hown hK hW hS k21 (by decide) rfl (by decide) rfl (hts _ kw_240) rfl rfl hin rfl rfl rfl dX2_init_52 (fun H locs M28 eM28 hW hS => ?_)
  replace hf := hf M28 eM28
  refine lv_iconst (v := 2) hx hb dX2_init_55 (by decide +kernel) ?_
  refine lv_aload_n hx hb dX2_init_56 rfl (lv_at hl 0 rfl) ?_
  obtain ⟨b29, hb29, hf⟩ := hf
  refine gm_getR (C := RX2) (T := TX2) (N := 13) (j := 1) hx hb hts inT_2 hown hK hW k21 (by decide) rfl (by decide) rfl (hts _ kw_240) rfl dX2_init_57 hb29 ?_
  obtain ⟨k30, hf⟩ := hf
  refine gm_alen hx hb hK hW (by rw [k30]; decide) dX2_init_60 ?_
  refine lv_bipush (v := 7) hx hb dX2_init_61 (by decide +kernel) ?_
  refine lv_idiv hx hb dX2_init_63 (by decide) ?_
  refine lv_imul hx hb dX2_init_64 ?_
  refine lv_iconst (v := 1) hx hb dX2_init_65 (by decide +kernel) ?_
  refine lv_iadd hx hb dX2_init_66 ?_
  refine lv_topi (fun x32 ex32 => ?_)
  replace hf := hf x32 ex32
  refine lv_istore_n (lv' := [(2, .int x32), (0, .ref v0), (1, .ref v1)]) hx hb dX2_init_67 rfl hl (by decide) rfl (fun ls hl => ?_)
  refine lv_aload_n hx hb dX2_init_68 rfl (lv_at hl 1 rfl) ?_
  refine lv_iload_n hx hb dX2_init_69 rfl (lv_at hl 0 rfl) ?_
  obtain ⟨h33, h34, hf⟩ := hf
  refine gm_newi hx hb (hts _ kw_129) hK hW hS hA (n := _) 74899 h33 rfl h34 (by decide) (by show _ ≤ 7; omega) (by show _ ≤ 412130; omega) dX2_init_70 (fun q35 H Y36 M37 h0q35 eY36 eM37 hW hS => ?_)
  replace hf := hf q35 h0q35 Y36 eY36 M37 eM37
  obtain ⟨k38, hf⟩ := hf
  refine gm_putFR (C := RX2) (T := TX2) (N := 13) (j := 3) hx hb hts inT_2 tyX2 tyX2_ok nmX2 hown hK hW hS k38 (by decide) rfl (by decide) rfl (hts _ kw_242) rfl rfl hin rfl rfl rfl dX2_init_72 (fun H locs M39 eM39 hW hS => ?_)
  replace hf := hf M39 eM39
  refine lv_aload_n hx hb dX2_init_75 rfl (lv_at hl 1 rfl) ?_
  refine lv_iload_n hx hb dX2_init_76 rfl (lv_at hl 0 rfl) ?_
  obtain ⟨h40, h41, hf⟩ := hf
  refine gm_newi hx hb (hts _ kw_129) hK hW hS hA (n := _) 74899 h40 rfl h41 (by decide) (by show _ ≤ 7; omega) (by show _ ≤ 412130; omega) dX2_init_77 (fun q42 H Y43 M44 h0q42 eY43 eM44 hW hS => ?_)
  replace hf := hf q42 h0q42 Y43 eY43 M44 eM44
  obtain ⟨k45, hf⟩ := hf
  refine gm_putFR (C := RX2) (T := TX2) (N := 13) (j := 4) hx hb hts inT_2 tyX2 tyX2_ok nmX2 hown hK hW hS k45 (by decide) rfl (by decide) rfl (hts _ kw_243) rfl rfl hin rfl rfl rfl dX2_init_79 (fun H locs M46 eM46 hW hS => ?_)
  replace hf := hf M46 eM46
  refine lv_aload_n hx hb dX2_init_82 rfl (lv_at hl 1 rfl) ?_
  refine lv_aload_n hx hb dX2_init_83 rfl (lv_at hl 1 rfl) ?_
  obtain ⟨b47, hb47, hf⟩ := hf
  refine gm_getR (C := RX2) (T := TX2) (N := 13) (j := 1) hx hb hts inT_2 hown hK hW k45 (by decide) rfl (by decide) rfl (hts _ kw_240) rfl dX2_init_84 hb47 ?_
  obtain ⟨k48, hf⟩ := hf
  refine gm_alen hx hb hK hW (by rw [k48]; decide) dX2_init_87 ?_
  obtain ⟨h49, h50, hf⟩ := hf
  refine gm_newb hx hb (hts _ kw_55) hK hW hS hA (n := _) 262144 h49 rfl h50 (by decide) (by show _ ≤ 7; omega) (by show _ ≤ 412130; omega) dX2_init_88 (fun q51 H Y52 M53 h0q51 eY52 eM53 hW hS => ?_)
  replace hf := hf q51 h0q51 Y52 eY52 M53 eM53
  obtain ⟨k54, hf⟩ := hf
  refine gm_putFR (C := RX2) (T := TX2) (N := 13) (j := 6) hx hb hts inT_2 tyX2 tyX2_ok nmX2 hown hK hW hS k54 (by decide) rfl (by decide) rfl (hts _ kw_245) rfl rfl hin rfl rfl rfl dX2_init_90 (fun H locs M55 eM55 hW hS => ?_)
  replace hf := hf M55 eM55
  refine W.widen (k := 7) (n := 412130) (by omega) (by omega) ?_
  exact gm_vretA hx hb hr hlocks hW hS hf dX2_init_93

abbrev rm_X2_isKeyOf : Room := { frames := 2, cells := 0, slots := 0, locals := 80 }
def L_X2_isKeyOf_20 (Y : Ly) (v0 : Nat) (v1 : Int32) (M : Mm) (Kn : Int32 → Mm → Prop) (x8 : Int32) (again20 : Int32 → Prop) : Prop :=
  ∃ b9 : Nat, mR M v0 2 = some b9 ∧ (yK Y b9 = 10 ∧ (((mI M b9 3) ≤ x8 → (bz 1 ∧ Kn 1 M)) ∧ (¬ ((mI M b9 3) ≤ x8) → (∃ b12 : Nat, mR M v0 1 = some b12 ∧ (∃ b13 : Nat, mR M v0 3 = some b13 ∧ (yK Y b13 = 101 ∧ (vp_in v1 (yN Y b13) ∧ (yK Y b12 = 100 ∧ (vp_in ((mI M b13 v1.toNatClampNeg) + x8) (yN Y b12) ∧ (∃ b18 : Nat, mR M v0 1 = some b18 ∧ (∃ b19 : Nat, mR M v0 2 = some b19 ∧ (yK Y b19 = 10 ∧ (yK Y b18 = 100 ∧ (vp_in ((mI M b19 2) + x8) (yN Y b18) ∧ (((mI M b12 ((mI M b13 v1.toNatClampNeg) + x8).toNatClampNeg) = (mI M b18 ((mI M b19 2) + x8).toNatClampNeg) → (∀ x24 : Int32, x24 = x8 + 1 → (again20 x24))) ∧ (¬ ((mI M b12 ((mI M b13 v1.toNatClampNeg) + x8).toNatClampNeg) = (mI M b18 ((mI M b19 2) + x8).toNatClampNeg)) → (bz 0 ∧ Kn 0 M)))))))))))))))))
def f_X2_isKeyOf (Y : Ly) (v0 : Nat) (v1 : Int32) (M : Mm) (Kn : Int32 → Mm → Prop) : Prop :=
  yK Y v0 = 2 ∧ (∃ b2 : Nat, mR M v0 4 = some b2 ∧ (yK Y b2 = 101 ∧ (vp_in v1 (yN Y b2) ∧ (∃ b5 : Nat, mR M v0 2 = some b5 ∧ (yK Y b5 = 10 ∧ (((mI M b2 v1.toNatClampNeg) = (mI M b5 3) → (∃ n, LOOP1 (L_X2_isKeyOf_20 Y v0 v1 M Kn) n 0)) ∧ (¬ ((mI M b2 v1.toNatClampNeg) = (mI M b5 3)) → (bz 0 ∧ Kn 0 M))))))))
set_option maxHeartbeats 4000000 in
set_option maxRecDepth 100000 in
theorem m_X2_isKeyOf (l : Launch) (D : va_G) (cy : Cy) (tq sz : Nat) (Y : Ly) (v0 : Nat) (v1 : Int32) (M : Mm) (Kn : Int32 → Mm → Prop) : Met l yX2_isKeyOf (Cond.code yX2_isKeyOf cX2_isKeyOf 3 (some .boolean) :: TT) rm_X2_isKeyOf (PcG D cy tq [.ref v0, .int v1] sz Y M (f_X2_isKeyOf Y v0 v1 M Kn)) (va_Qi Kn (BG D cy (Am Y sz) Y) (Am Y sz)) 0 0 (Am Y sz) := by
  refine Met.ofW (cc := cX2_isKeyOf) (maxL := 3) (ret := (some .boolean)) (by decide) rfl ?_
  intro p e s m args below meth c s₁ B hml hv
  obtain ⟨hargs, hsz, hW, hK, hC, hf⟩ := hv
  subst hsz
  have hx := B.exec
  have hb := B.bytes
  have hr := B.returns
  have hts : ∀ w ∈ TT, w.before args s = true := fun w h => atoms_spec (ws := Cond.code yX2_isKeyOf cX2_isKeyOf 3 (some .boolean) :: TT) B.pre w (List.mem_cons_of_mem _ h)
  have hown : s.vm.findClass RX2 = some m.cls := findClass_of_methodNamed B.named
  have hlocks := B.notSynchronized
  replace hW := Wd_self (sz := s.heap.size) hW
  generalize hAe : Am Y s.heap.size = A at hW hC ⊢
  have hA : ∀ q : Nat, s.heap.size ≤ q → A q := fun q h => by rw [← hAe]; exact Or.inr h
  clear hAe
  have hS : va_S A s.heap s.heap [] := va_S.rf
  obtain ⟨ls, hE, hl⟩ := gm_entry m [.ref v0, .int v1] (n := 3) hargs (Nat.le_of_ble_eq_true rfl)
  rw [hE]
  have hl : lv_has ls 3 [(0, .ref v0), (1, .int v1)] := hl
  show W p l e rm_X2_isKeyOf s m args below meth c s.heap [] 0 0 (MQ below (va_Qi Kn (BG D cy A Y) A) args s 0 0 A) (F0 m 0 ls [])
  unfold f_X2_isKeyOf at hf
  refine lv_aload_n hx hb dX2_isKeyOf_0 rfl (lv_at hl 0 rfl) ?_
  obtain ⟨k1, hf⟩ := hf
  obtain ⟨b2, hb2, hf⟩ := hf
  refine gm_getR (C := RX2) (T := TX2) (N := 13) (j := 4) hx hb hts inT_2 hown hK hW k1 (by decide) rfl (by decide) rfl (hts _ kw_243) rfl dX2_isKeyOf_1 hb2 ?_
  refine lv_iload_n hx hb dX2_isKeyOf_4 rfl (lv_at hl 1 rfl) ?_
  obtain ⟨k3, hf⟩ := hf
  obtain ⟨h4, hf⟩ := hf
  refine gm_iald hx hb hK hW k3 h4 dX2_isKeyOf_5 ?_
  refine lv_aload_n hx hb dX2_isKeyOf_6 rfl (lv_at hl 0 rfl) ?_
  obtain ⟨b5, hb5, hf⟩ := hf
  refine gm_getR (C := RX2) (T := TX2) (N := 13) (j := 2) hx hb hts inT_2 hown hK hW k1 (by decide) rfl (by decide) rfl (hts _ kw_241) rfl dX2_isKeyOf_7 hb5 ?_
  obtain ⟨k6, hf⟩ := hf
  refine gm_getI (C := RX10) (T := TX10) (N := 8) (j := 3) hx hb hts inT_10 hown hK hW k6 (by decide) rfl (by decide) rfl (hts _ kw_79) rfl dX2_isKeyOf_10 ?_
  refine lv_icmp_eq (tgt := 18) hx hb dX2_isKeyOf_13 (by decide) (fun c7 => ?_) (fun c7 => ?_)
  · replace hf := hf.1 c7
    refine lv_iconst (v := 0) hx hb dX2_isKeyOf_18 (by decide +kernel) ?_
    refine lv_istore_n (lv' := [(2, .int 0), (0, .ref v0), (1, .int v1)]) hx hb dX2_isKeyOf_19 rfl hl (by decide) rfl (fun ls hl => ?_)
    obtain ⟨n20, hf⟩ := hf
    have lp20 : ∀ (n20 : Nat) (x8 : Int32) (H : Heap) (locs : List Loc) (ls : Array Slot), lv_has ls 3 [(0, .ref v0), (1, .int v1), (2, .int x8)] → Wd D cy A Y M H → va_S A s.heap H locs → LOOP1 (L_X2_isKeyOf_20 Y v0 v1 M Kn) n20 x8 → W p l e rm_X2_isKeyOf s m args below meth c H locs 0 0 (MQ below (va_Qi Kn (BG D cy A Y) A) args s 0 0 A) (F0 m 20 ls []) := by
      intro n20
      induction n20 with
      | zero => intro x8 H locs ls hl hW hS hf; exact hf.elim
      | succ n20 ih20 =>
        intro x8 H locs ls hl hW hS hf
        replace hf : L_X2_isKeyOf_20 Y v0 v1 M Kn x8 (LOOP1 (L_X2_isKeyOf_20 Y v0 v1 M Kn) n20) := hf
        unfold L_X2_isKeyOf_20 at hf
        refine lv_iload_n hx hb dX2_isKeyOf_20 rfl (lv_at hl 2 rfl) ?_
        refine lv_aload_n hx hb dX2_isKeyOf_21 rfl (lv_at hl 0 rfl) ?_
        obtain ⟨b9, hb9, hf⟩ := hf
        refine gm_getR (C := RX2) (T := TX2) (N := 13) (j := 2) hx hb hts inT_2 hown hK hW k1 (by decide) rfl (by decide) rfl (hts _ kw_241) rfl dX2_isKeyOf_22 hb9 ?_
        obtain ⟨k10, hf⟩ := hf
        refine gm_getI (C := RX10) (T := TX10) (N := 8) (j := 3) hx hb hts inT_10 hown hK hW k10 (by decide) rfl (by decide) rfl (hts _ kw_79) rfl dX2_isKeyOf_25 ?_
        refine lv_icmp_ge (tgt := 69) hx hb dX2_isKeyOf_28 (by decide) (fun c11 => ?_) (fun c11 => ?_)
        · replace hf := hf.1 c11
          refine lv_iconst (v := 1) hx hb dX2_isKeyOf_69 (by decide +kernel) ?_
          exact gm_zret hx hb hr hlocks hW hS hf.1 hf.2 dX2_isKeyOf_70
        · replace hf := hf.2 c11
          refine lv_aload_n hx hb dX2_isKeyOf_31 rfl (lv_at hl 0 rfl) ?_
          obtain ⟨b12, hb12, hf⟩ := hf
          refine gm_getR (C := RX2) (T := TX2) (N := 13) (j := 1) hx hb hts inT_2 hown hK hW k1 (by decide) rfl (by decide) rfl (hts _ kw_240) rfl dX2_isKeyOf_32 hb12 ?_
          refine lv_aload_n hx hb dX2_isKeyOf_35 rfl (lv_at hl 0 rfl) ?_
          obtain ⟨b13, hb13, hf⟩ := hf
          refine gm_getR (C := RX2) (T := TX2) (N := 13) (j := 3) hx hb hts inT_2 hown hK hW k1 (by decide) rfl (by decide) rfl (hts _ kw_242) rfl dX2_isKeyOf_36 hb13 ?_
          refine lv_iload_n hx hb dX2_isKeyOf_39 rfl (lv_at hl 1 rfl) ?_
          obtain ⟨k14, hf⟩ := hf
          obtain ⟨h15, hf⟩ := hf
          refine gm_iald hx hb hK hW k14 h15 dX2_isKeyOf_40 ?_
          refine lv_iload_n hx hb dX2_isKeyOf_41 rfl (lv_at hl 2 rfl) ?_
          refine lv_iadd hx hb dX2_isKeyOf_42 ?_
          obtain ⟨k16, hf⟩ := hf
          obtain ⟨h17, hf⟩ := hf
          refine gm_bald hx hb hK hW k16 h17 dX2_isKeyOf_43 ?_
          refine lv_aload_n hx hb dX2_isKeyOf_44 rfl (lv_at hl 0 rfl) ?_
          obtain ⟨b18, hb18, hf⟩ := hf
          refine gm_getR (C := RX2) (T := TX2) (N := 13) (j := 1) hx hb hts inT_2 hown hK hW k1 (by decide) rfl (by decide) rfl (hts _ kw_240) rfl dX2_isKeyOf_45 hb18 ?_
          refine lv_aload_n hx hb dX2_isKeyOf_48 rfl (lv_at hl 0 rfl) ?_
          obtain ⟨b19, hb19, hf⟩ := hf
          refine gm_getR (C := RX2) (T := TX2) (N := 13) (j := 2) hx hb hts inT_2 hown hK hW k1 (by decide) rfl (by decide) rfl (hts _ kw_241) rfl dX2_isKeyOf_49 hb19 ?_
          obtain ⟨k20, hf⟩ := hf
          refine gm_getI (C := RX10) (T := TX10) (N := 8) (j := 2) hx hb hts inT_10 hown hK hW k20 (by decide) rfl (by decide) rfl (hts _ kw_76) rfl dX2_isKeyOf_52 ?_
          refine lv_iload_n hx hb dX2_isKeyOf_55 rfl (lv_at hl 2 rfl) ?_
          refine lv_iadd hx hb dX2_isKeyOf_56 ?_
          obtain ⟨k21, hf⟩ := hf
          obtain ⟨h22, hf⟩ := hf
          refine gm_bald hx hb hK hW k21 h22 dX2_isKeyOf_57 ?_
          refine lv_icmp_eq (tgt := 63) hx hb dX2_isKeyOf_58 (by decide) (fun c23 => ?_) (fun c23 => ?_)
          · replace hf := hf.1 c23
            obtain ⟨x24, ex24⟩ : ∃ y : Int32, y = x8 + 1 := ⟨_, rfl⟩
            replace hf := hf x24 ex24
            refine lv_iinc (v := x24) (lv' := [(2, .int x24), (0, .ref v0), (1, .int v1)]) hx hb dX2_isKeyOf_63 hl (k := 2) rfl (by rw [ex24]; rfl) (by decide) rfl (fun ls hl => ?_)
            refine lv_goto (tgt := 20) hx hb dX2_isKeyOf_66 (by decide) ?_
            exact ih20 _ _ _ _ (lv_sub hl [1, 2, 0] rfl) hW hS hf
          · replace hf := hf.2 c23
            refine lv_iconst (v := 0) hx hb dX2_isKeyOf_61 (by decide +kernel) ?_
            exact gm_zret hx hb hr hlocks hW hS hf.1 hf.2 dX2_isKeyOf_62
    exact lp20 n20 _ _ _ _ (lv_sub hl [1, 2, 0] rfl) hW hS hf
  · replace hf := hf.2 c7
    refine lv_iconst (v := 0) hx hb dX2_isKeyOf_16 (by decide +kernel) ?_
    exact gm_zret hx hb hr hlocks hW hS hf.1 hf.2 dX2_isKeyOf_17

abbrev rm_X2_slotOfKey : Room := { frames := 3, cells := 0, slots := 0, locals := 104 }
def f_X2_slotOfKey_89 (Y : Ly) (Kn : Int32 → Mm → Prop) (x13 : Int32) (M16 : Mm) : Prop :=
  Kn x13 M16
def f_X2_slotOfKey_82 (Y : Ly) (x14 : Int32) (again39 : Int32 → Int32 → Mm → Prop) (M22 : Mm) (y25 : Int32) : Prop :=
  ∀ x26 : Int32, x26 = x14 + 1 → (again39 y25 x26 M22)
def L_X2_slotOfKey_39 (Y : Ly) (v0 : Nat) (Kn : Int32 → Mm → Prop) (x13 : Int32) (x14 : Int32) (M15 : Mm) (again39 : Int32 → Int32 → Mm → Prop) : Prop :=
  ((mI M15 v0 5) ≤ x14 → (f_X2_slotOfKey_89 Y Kn x13 M15)) ∧ (¬ ((mI M15 v0 5) ≤ x14) → (∃ b18 : Nat, mR M15 v0 3 = some b18 ∧ (yK Y b18 = 101 ∧ (vp_in x13 (yN Y b18) ∧ (((mI M15 b18 x13.toNatClampNeg) = (-1) → (f_X2_slotOfKey_89 Y Kn x13 M15)) ∧ (¬ ((mI M15 b18 x13.toNatClampNeg) = (-1)) → (f_X2_isKeyOf Y v0 x13 M15 (fun r23 M22 => ((¬ r23 = 0 → (f_X2_slotOfKey_89 Y Kn x13 M22)) ∧ (r23 = 0 → (((mI M22 v0 5) ≤ (x13 + 1) → (f_X2_slotOfKey_82 Y x14 again39 M22 0)) ∧ (¬ ((mI M22 v0 5) ≤ (x13 + 1)) → (f_X2_slotOfKey_82 Y x14 again39 M22 (x13 + 1))))))))))))))
def f_X2_slotOfKey (Y : Ly) (v0 : Nat) (M : Mm) (Kn : Int32 → Mm → Prop) : Prop :=
  yK Y v0 = 2 ∧ (∃ b2 : Nat, mR M v0 1 = some b2 ∧ (∃ b3 : Nat, mR M v0 2 = some b3 ∧ (yK Y b3 = 10 ∧ (∃ b5 : Nat, mR M v0 2 = some b5 ∧ (yK Y b5 = 10 ∧ (∃ b7 : Nat, mR M v0 2 = some b7 ∧ (yK Y b7 = 10 ∧ (f_X1_checksum Y b2 (mI M b3 2) ((mI M b5 2) + (mI M b7 3)) M (fun r10 M9 => (f_J9_floorMod_7cf53 Y r10 (mI M9 v0 5) M9 (fun r12 M11 => (∃ n, LOOP3 (L_X2_slotOfKey_39 Y v0 Kn) n r12 0 M11))))))))))))
set_option maxHeartbeats 4000000 in
set_option maxRecDepth 100000 in
theorem m_X2_slotOfKey (l : Launch) (D : va_G) (cy : Cy) (tq sz : Nat) (Y : Ly) (v0 : Nat) (M : Mm) (Kn : Int32 → Mm → Prop) : Met l yX2_slotOfKey (Cond.code yX2_slotOfKey cX2_slotOfKey 3 (some .int) :: TT) rm_X2_slotOfKey (PcG D cy tq [.ref v0] sz Y M (f_X2_slotOfKey Y v0 M Kn)) (va_Qi Kn (BG D cy (Am Y sz) Y) (Am Y sz)) 0 0 (Am Y sz) := by
  refine Met.ofW (cc := cX2_slotOfKey) (maxL := 3) (ret := (some .int)) (by decide) rfl ?_
  intro p e s m args below meth c s₁ B hml hv
  obtain ⟨hargs, hsz, hW, hK, hC, hf⟩ := hv
  subst hsz
  have hx := B.exec
  have hb := B.bytes
  have hr := B.returns
  have hts : ∀ w ∈ TT, w.before args s = true := fun w h => atoms_spec (ws := Cond.code yX2_slotOfKey cX2_slotOfKey 3 (some .int) :: TT) B.pre w (List.mem_cons_of_mem _ h)
  have hown : s.vm.findClass RX2 = some m.cls := findClass_of_methodNamed B.named
  have hlocks := B.notSynchronized
  replace hW := Wd_self (sz := s.heap.size) hW
  generalize hAe : Am Y s.heap.size = A at hW hC ⊢
  have hA : ∀ q : Nat, s.heap.size ≤ q → A q := fun q h => by rw [← hAe]; exact Or.inr h
  clear hAe
  have hS : va_S A s.heap s.heap [] := va_S.rf
  obtain ⟨ls, hE, hl⟩ := gm_entry m [.ref v0] (n := 3) hargs (Nat.le_of_ble_eq_true rfl)
  rw [hE]
  have hl : lv_has ls 3 [(0, .ref v0)] := hl
  show W p l e rm_X2_slotOfKey s m args below meth c s.heap [] 0 0 (MQ below (va_Qi Kn (BG D cy A Y) A) args s 0 0 A) (F0 m 0 ls [])
  unfold f_X2_slotOfKey at hf
  refine lv_aload_n hx hb dX2_slotOfKey_0 rfl (lv_at hl 0 rfl) ?_
  obtain ⟨k1, hf⟩ := hf
  obtain ⟨b2, hb2, hf⟩ := hf
  refine gm_getR (C := RX2) (T := TX2) (N := 13) (j := 1) hx hb hts inT_2 hown hK hW k1 (by decide) rfl (by decide) rfl (hts _ kw_240) rfl dX2_slotOfKey_1 hb2 ?_
  refine lv_aload_n hx hb dX2_slotOfKey_4 rfl (lv_at hl 0 rfl) ?_
  obtain ⟨b3, hb3, hf⟩ := hf
  refine gm_getR (C := RX2) (T := TX2) (N := 13) (j := 2) hx hb hts inT_2 hown hK hW k1 (by decide) rfl (by decide) rfl (hts _ kw_241) rfl dX2_slotOfKey_5 hb3 ?_
  obtain ⟨k4, hf⟩ := hf
  refine gm_getI (C := RX10) (T := TX10) (N := 8) (j := 2) hx hb hts inT_10 hown hK hW k4 (by decide) rfl (by decide) rfl (hts _ kw_76) rfl dX2_slotOfKey_8 ?_
  refine lv_aload_n hx hb dX2_slotOfKey_11 rfl (lv_at hl 0 rfl) ?_
  obtain ⟨b5, hb5, hf⟩ := hf
  refine gm_getR (C := RX2) (T := TX2) (N := 13) (j := 2) hx hb hts inT_2 hown hK hW k1 (by decide) rfl (by decide) rfl (hts _ kw_241) rfl dX2_slotOfKey_12 hb5 ?_
  obtain ⟨k6, hf⟩ := hf
  refine gm_getI (C := RX10) (T := TX10) (N := 8) (j := 2) hx hb hts inT_10 hown hK hW k6 (by decide) rfl (by decide) rfl (hts _ kw_76) rfl dX2_slotOfKey_15 ?_
  refine lv_aload_n hx hb dX2_slotOfKey_18 rfl (lv_at hl 0 rfl) ?_
  obtain ⟨b7, hb7, hf⟩ := hf
  refine gm_getR (C := RX2) (T := TX2) (N := 13) (j := 2) hx hb hts inT_2 hown hK hW k1 (by decide) rfl (by decide) rfl (hts _ kw_241) rfl dX2_slotOfKey_19 hb7 ?_
  obtain ⟨k8, hf⟩ := hf
  refine gm_getI (C := RX10) (T := TX10) (N := 8) (j := 3) hx hb hts inT_10 hown hK hW k8 (by decide) rfl (by decide) rfl (hts _ kw_79) rfl dX2_slotOfKey_22 ?_
  refine lv_iadd hx hb dX2_slotOfKey_25 ?_
  refine gm_ci (va_runS (As := [.ref b2, .int (mI M b3 2), .int ((mI M b5 2) + (mI M b7 3))]) (rest := []) ⟨hx, hb, hml, hown, hts⟩ (m_X1_checksum l D cy tq _ Y _ _ _ _ _) (va_cwS 3 hts (good_S kw_1090 kw_756 kw_17 kw_757) rfl rfl rfl (by decide +kernel) ⟨Nat.le_of_ble_eq_true rfl, Nat.le_of_ble_eq_true rfl⟩) (gm_preS hK hW hC hS hA hf) rfl rfl hl.1 rfl (lv_room (Nat.le_of_ble_eq_true rfl)) dX2_slotOfKey_26 ⟨Nat.le_of_ble_eq_true rfl, Nat.le_of_ble_eq_true rfl⟩) hW hS hA (fun r10 M9 H locs hW hS hf => ?_)
  refine lv_aload_n hx hb dX2_slotOfKey_29 rfl (lv_at hl 0 rfl) ?_
  refine gm_getI (C := RX2) (T := TX2) (N := 13) (j := 5) hx hb hts inT_2 hown hK hW k1 (by decide) rfl (by decide) rfl (hts _ kw_244) rfl dX2_slotOfKey_30 ?_
  refine gm_ci (va_runS (As := [.int r10, .int (mI M9 v0 5)]) (rest := []) ⟨hx, hb, hml, hown, hts⟩ (m_J9_floorMod_7cf53 l D cy tq _ Y _ _ _ _) (va_cwS 2 hts (good_S kw_1091 kw_1092 kw_6 kw_1093) rfl rfl rfl (by decide +kernel) ⟨Nat.le_of_ble_eq_true rfl, Nat.le_of_ble_eq_true rfl⟩) (gm_preS hK hW hC hS hA hf) rfl rfl hl.1 rfl (lv_room (Nat.le_of_ble_eq_true rfl)) dX2_slotOfKey_33 ⟨Nat.le_of_ble_eq_true rfl, Nat.le_of_ble_eq_true rfl⟩) hW hS hA (fun r12 M11 H locs hW hS hf => ?_)
  refine lv_istore_n (lv' := [(1, .int r12), (0, .ref v0)]) hx hb dX2_slotOfKey_36 rfl hl (by decide) rfl (fun ls hl => ?_)
  refine lv_iconst (v := 0) hx hb dX2_slotOfKey_37 (by decide +kernel) ?_
  refine lv_istore_n (lv' := [(2, .int 0), (1, .int r12), (0, .ref v0)]) hx hb dX2_slotOfKey_38 rfl hl (by decide) rfl (fun ls hl => ?_)
  obtain ⟨n39, hf⟩ := hf
  have lp39 : ∀ (n39 : Nat) (x13 : Int32) (x14 : Int32) (M15 : Mm) (H : Heap) (locs : List Loc) (ls : Array Slot), lv_has ls 3 [(0, .ref v0), (1, .int x13), (2, .int x14)] → Wd D cy A Y M15 H → va_S A s.heap H locs → LOOP3 (L_X2_slotOfKey_39 Y v0 Kn) n39 x13 x14 M15 → W p l e rm_X2_slotOfKey s m args below meth c H locs 0 0 (MQ below (va_Qi Kn (BG D cy A Y) A) args s 0 0 A) (F0 m 39 ls []) := by
    intro n39
    induction n39 with
    | zero => intro x13 x14 M15 H locs ls hl hW hS hf; exact hf.elim
    | succ n39 ih39 =>
      intro x13 x14 M15 H locs ls hl hW hS hf
      replace hf : L_X2_slotOfKey_39 Y v0 Kn x13 x14 M15 (LOOP3 (L_X2_slotOfKey_39 Y v0 Kn) n39) := hf
      unfold L_X2_slotOfKey_39 at hf
      refine lv_iload_n hx hb dX2_slotOfKey_39 rfl (lv_at hl 2 rfl) ?_
      refine lv_aload_n hx hb dX2_slotOfKey_40 rfl (lv_at hl 0 rfl) ?_
      refine gm_getI (C := RX2) (T := TX2) (N := 13) (j := 5) hx hb hts inT_2 hown hK hW k1 (by decide) rfl (by decide) rfl (hts _ kw_244) rfl dX2_slotOfKey_41 ?_
      have j89 : ∀ (M16 : Mm) (H : Heap) (locs : List Loc) (ls : Array Slot), lv_has ls 3 [(1, .int x13)] → Wd D cy A Y M16 H → va_S A s.heap H locs → f_X2_slotOfKey_89 Y Kn x13 M16 → W p l e rm_X2_slotOfKey s m args below meth c H locs 0 0 (MQ below (va_Qi Kn (BG D cy A Y) A) args s 0 0 A) (F0 m 89 ls []) := by
        intro M16 H locs ls hl hW hS hf
        unfold f_X2_slotOfKey_89 at hf
        refine lv_iload_n hx hb dX2_slotOfKey_89 rfl (lv_at hl 0 rfl) ?_
        exact gm_iret hx hb hr hlocks hW hS hf dX2_slotOfKey_90
      refine lv_icmp_ge (tgt := 89) hx hb dX2_slotOfKey_44 (by decide) (fun c17 => ?_) (fun c17 => ?_)
      · replace hf := hf.1 c17
        exact j89 _ _ _ _ (lv_sub hl [1] rfl) hW hS hf
      · replace hf := hf.2 c17
        refine lv_aload_n hx hb dX2_slotOfKey_47 rfl (lv_at hl 0 rfl) ?_
        obtain ⟨b18, hb18, hf⟩ := hf
        refine gm_getR (C := RX2) (T := TX2) (N := 13) (j := 3) hx hb hts inT_2 hown hK hW k1 (by decide) rfl (by decide) rfl (hts _ kw_242) rfl dX2_slotOfKey_48 hb18 ?_
        refine lv_iload_n hx hb dX2_slotOfKey_51 rfl (lv_at hl 1 rfl) ?_
        obtain ⟨k19, hf⟩ := hf
        obtain ⟨h20, hf⟩ := hf
        refine gm_iald hx hb hK hW k19 h20 dX2_slotOfKey_52 ?_
        refine lv_iconst (v := -1) hx hb dX2_slotOfKey_53 (by decide +kernel) ?_
        refine lv_icmp_eq (tgt := 89) hx hb dX2_slotOfKey_54 (by decide) (fun c21 => ?_) (fun c21 => ?_)
        · replace hf := hf.1 c21
          exact j89 _ _ _ _ (lv_sub hl [1] rfl) hW hS hf
        · replace hf := hf.2 c21
          refine lv_aload_n hx hb dX2_slotOfKey_57 rfl (lv_at hl 0 rfl) ?_
          refine lv_iload_n hx hb dX2_slotOfKey_58 rfl (lv_at hl 1 rfl) ?_
          refine gm_ci (va_runV (As := [.int x13]) (rest := []) ⟨hx, hb, hml, hown, hts⟩ (m_X2_isKeyOf l D cy tq _ Y _ _ _ _) (cwV 1 hts (good_V kw_1094 kw_1095 kw_1808 kw_10 kw_1096) rfl rfl rfl (by decide +kernel) ⟨Nat.le_of_ble_eq_true rfl, Nat.le_of_ble_eq_true rfl⟩) (gm_preV hK hW hC hS hA k1 (by decide) (q := (RX2, TX2, 13)) rfl rfl hf) rfl rfl hl.1 rfl (lv_room (Nat.le_of_ble_eq_true rfl)) dX2_slotOfKey_59 ⟨Nat.le_of_ble_eq_true rfl, Nat.le_of_ble_eq_true rfl⟩) hW hS hA (fun r23 M22 H locs hW hS hf => ?_)
          refine lv_if_ne (tgt := 89) hx hb dX2_slotOfKey_62 (by decide) (fun c24 => ?_) (fun c24 => ?_)
          · replace hf := hf.1 c24
            exact j89 _ _ _ _ (lv_sub hl [1] rfl) hW hS hf
          · replace hf := hf.2 c24
            refine lv_iload_n hx hb dX2_slotOfKey_65 rfl (lv_at hl 1 rfl) ?_
            refine lv_iconst (v := 1) hx hb dX2_slotOfKey_66 (by decide +kernel) ?_
            refine lv_iadd hx hb dX2_slotOfKey_67 ?_
            refine lv_aload_n hx hb dX2_slotOfKey_68 rfl (lv_at hl 0 rfl) ?_
            refine gm_getI (C := RX2) (T := TX2) (N := 13) (j := 5) hx hb hts inT_2 hown hK hW k1 (by decide) rfl (by decide) rfl (hts _ kw_244) rfl dX2_slotOfKey_69 ?_
            have j82 : ∀ (y25 : Int32) (H : Heap) (locs : List Loc) (ls : Array Slot), lv_has ls 3 [(0, .ref v0), (2, .int x14)] → Wd D cy A Y M22 H → va_S A s.heap H locs → f_X2_slotOfKey_82 Y x14 (LOOP3 (L_X2_slotOfKey_39 Y v0 Kn) n39) M22 y25 → W p l e rm_X2_slotOfKey s m args below meth c H locs 0 0 (MQ below (va_Qi Kn (BG D cy A Y) A) args s 0 0 A) (F0 m 82 ls [.int y25]) := by
              intro y25 H locs ls hl hW hS hf
              unfold f_X2_slotOfKey_82 at hf
              refine lv_istore_n (lv' := [(1, .int y25), (0, .ref v0), (2, .int x14)]) hx hb dX2_slotOfKey_82 rfl hl (by decide) rfl (fun ls hl => ?_)
              obtain ⟨x26, ex26⟩ : ∃ y : Int32, y = x14 + 1 := ⟨_, rfl⟩
              replace hf := hf x26 ex26
              refine lv_iinc (v := x26) (lv' := [(2, .int x26), (1, .int y25), (0, .ref v0)]) hx hb dX2_slotOfKey_83 hl (k := 2) rfl (by rw [ex26]; rfl) (by decide) rfl (fun ls hl => ?_)
              refine lv_goto (tgt := 39) hx hb dX2_slotOfKey_86 (by decide) ?_
              exact ih39 _ _ _ _ _ _ (lv_sub hl [2, 1, 0] rfl) hW hS hf
            refine lv_icmp_ge (tgt := 81) hx hb dX2_slotOfKey_72 (by decide) (fun c27 => ?_) (fun c27 => ?_)
            · replace hf := hf.1 c27
              refine lv_iconst (v := 0) hx hb dX2_slotOfKey_81 (by decide +kernel) ?_
              exact j82 _ _ _ _ (lv_sub hl [0, 2] rfl) hW hS hf
            · replace hf := hf.2 c27
              refine lv_iload_n hx hb dX2_slotOfKey_75 rfl (lv_at hl 1 rfl) ?_
              refine lv_iconst (v := 1) hx hb dX2_slotOfKey_76 (by decide +kernel) ?_
              refine lv_iadd hx hb dX2_slotOfKey_77 ?_
              refine lv_goto (tgt := 82) hx hb dX2_slotOfKey_78 (by decide) ?_
              exact j82 _ _ _ _ (lv_sub hl [0, 2] rfl) hW hS hf
  exact lp39 n39 _ _ _ _ _ _ (lv_sub hl [2, 1, 0] rfl) hW hS hf

abbrev rm_X2_goes : Room := { frames := 4, cells := 0, slots := 0, locals := 126 }
def f_X2_goes_79 (Y : Ly) (Kn : Int32 → Mm → Prop) (M9 : Mm) (y15 : Int32) : Prop :=
  bz y15 ∧ Kn y15 M9
def f_X2_goes_74 (Y : Ly) (Kn : Int32 → Mm → Prop) (M9 : Mm) : Prop :=
  f_X2_goes_79 Y Kn M9 1
def f_X2_goes_78 (Y : Ly) (Kn : Int32 → Mm → Prop) (M9 : Mm) : Prop :=
  f_X2_goes_79 Y Kn M9 0
def f_X2_goes_37 (Y : Ly) (v0 : Nat) (M : Mm) (Kn : Int32 → Mm → Prop) (y7 : Int32) : Prop :=
  ∃ b8 : Nat, mR M v0 3 = some b8 ∧ (f_X2_slotOfKey Y v0 M (fun r10 M9 => (yK Y b8 = 101 ∧ (vp_in r10 (yN Y b8) ∧ (∃ b13 : Nat, mR M9 v0 2 = some b13 ∧ (yK Y b13 = 10 ∧ ((¬ (mI M9 b8 r10.toNatClampNeg) = (mI M9 b13 2) → (f_X2_goes_74 Y Kn M9)) ∧ ((mI M9 b8 r10.toNatClampNeg) = (mI M9 b13 2) → (∃ b17 : Nat, mR M9 v0 2 = some b17 ∧ (yK Y b17 = 10 ∧ ((¬ (mI M9 b17 5) = (-1) → (f_X2_goes_78 Y Kn M9)) ∧ ((mI M9 b17 5) = (-1) → ((y7 = 0 → (f_X2_goes_78 Y Kn M9)) ∧ (¬ (y7 = 0) → (f_X2_goes_74 Y Kn M9)))))))))))))))
def f_X2_goes (Y : Ly) (v0 : Nat) (v1 : Int64) (v3 : Int32) (M : Mm) (Kn : Int32 → Mm → Prop) : Prop :=
  yK Y v0 = 2 ∧ (∃ b2 : Nat, mR M v0 2 = some b2 ∧ (yK Y b2 = 10 ∧ ((¬ (mI M b2 3) = (-1) → (∃ b5 : Nat, mR M v0 2 = some b5 ∧ (yK Y b5 = 10 ∧ ((((v3 - 1000).toInt64) < (v1 + (mJ M b5 0)) → (f_X2_goes_37 Y v0 M Kn 0)) ∧ (¬ (((v3 - 1000).toInt64) < (v1 + (mJ M b5 0))) → (f_X2_goes_37 Y v0 M Kn 1)))))) ∧ ((mI M b2 3) = (-1) → (bz 0 ∧ Kn 0 M)))))
set_option maxHeartbeats 4000000 in
set_option maxRecDepth 100000 in
theorem m_X2_goes (l : Launch) (D : va_G) (cy : Cy) (tq sz : Nat) (Y : Ly) (v0 : Nat) (v1 : Int64) (v3 : Int32) (M : Mm) (Kn : Int32 → Mm → Prop) : Met l yX2_goes (Cond.code yX2_goes cX2_goes 5 (some .boolean) :: TT) rm_X2_goes (PcG D cy tq [.ref v0, .long v1, .int v3] sz Y M (f_X2_goes Y v0 v1 v3 M Kn)) (va_Qi Kn (BG D cy (Am Y sz) Y) (Am Y sz)) 0 0 (Am Y sz) := by
  refine Met.ofW (cc := cX2_goes) (maxL := 5) (ret := (some .boolean)) (by decide) rfl ?_
  intro p e s m args below meth c s₁ B hml hv
  obtain ⟨hargs, hsz, hW, hK, hC, hf⟩ := hv
  subst hsz
  have hx := B.exec
  have hb := B.bytes
  have hr := B.returns
  have hts : ∀ w ∈ TT, w.before args s = true := fun w h => atoms_spec (ws := Cond.code yX2_goes cX2_goes 5 (some .boolean) :: TT) B.pre w (List.mem_cons_of_mem _ h)
  have hown : s.vm.findClass RX2 = some m.cls := findClass_of_methodNamed B.named
  have hlocks := B.notSynchronized
  replace hW := Wd_self (sz := s.heap.size) hW
  generalize hAe : Am Y s.heap.size = A at hW hC ⊢
  have hA : ∀ q : Nat, s.heap.size ≤ q → A q := fun q h => by rw [← hAe]; exact Or.inr h
  clear hAe
  have hS : va_S A s.heap s.heap [] := va_S.rf
  obtain ⟨ls, hE, hl⟩ := gm_entry m [.ref v0, .long v1, .int v3] (n := 5) hargs (Nat.le_of_ble_eq_true rfl)
  rw [hE]
  have hl : lv_has ls 5 [(0, .ref v0), (1, .long v1), (3, .int v3)] := hl
  show W p l e rm_X2_goes s m args below meth c s.heap [] 0 0 (MQ below (va_Qi Kn (BG D cy A Y) A) args s 0 0 A) (F0 m 0 ls [])
  unfold f_X2_goes at hf
  refine lv_aload_n hx hb dX2_goes_0 rfl (lv_at hl 0 rfl) ?_
  obtain ⟨k1, hf⟩ := hf
  obtain ⟨b2, hb2, hf⟩ := hf
  refine gm_getR (C := RX2) (T := TX2) (N := 13) (j := 2) hx hb hts inT_2 hown hK hW k1 (by decide) rfl (by decide) rfl (hts _ kw_241) rfl dX2_goes_1 hb2 ?_
  obtain ⟨k3, hf⟩ := hf
  refine gm_getI (C := RX10) (T := TX10) (N := 8) (j := 3) hx hb hts inT_10 hown hK hW k3 (by decide) rfl (by decide) rfl (hts _ kw_79) rfl dX2_goes_4 ?_
  refine lv_iconst (v := -1) hx hb dX2_goes_7 (by decide +kernel) ?_
  refine lv_icmp_ne (tgt := 13) hx hb dX2_goes_8 (by decide) (fun c4 => ?_) (fun c4 => ?_)
  · replace hf := hf.1 c4
    refine lv_lload_n hx hb dX2_goes_13 rfl (lv_at hl 1 rfl) ?_
    refine lv_aload_n hx hb dX2_goes_14 rfl (lv_at hl 0 rfl) ?_
    obtain ⟨b5, hb5, hf⟩ := hf
    refine gm_getR (C := RX2) (T := TX2) (N := 13) (j := 2) hx hb hts inT_2 hown hK hW k1 (by decide) rfl (by decide) rfl (hts _ kw_241) rfl dX2_goes_15 hb5 ?_
    obtain ⟨k6, hf⟩ := hf
    refine gm_getJ (C := RX10) (T := TX10) (N := 8) (j := 0) hx hb hts inT_10 hown hK hW k6 (by decide) rfl (by decide) rfl (hts _ kw_67) rfl dX2_goes_18 ?_
    refine lv_ladd hx hb dX2_goes_21 ?_
    refine lv_iload_n hx hb dX2_goes_22 rfl (lv_at hl 2 rfl) ?_
    refine lv_sipush (v := 1000) hx hb dX2_goes_23 (by decide +kernel) ?_
    refine lv_isub hx hb dX2_goes_26 ?_
    refine lv_i2l hx hb dX2_goes_27 rfl ?_
    refine W.lcmp hx hb dX2_goes_28 ?_
    have j37 : ∀ (y7 : Int32) (H : Heap) (locs : List Loc) (ls : Array Slot), lv_has ls 5 [(0, .ref v0)] → Wd D cy A Y M H → va_S A s.heap H locs → f_X2_goes_37 Y v0 M Kn y7 → W p l e rm_X2_goes s m args below meth c H locs 0 0 (MQ below (va_Qi Kn (BG D cy A Y) A) args s 0 0 A) (F0 m 37 ls [.int y7]) := by
      intro y7 H locs ls hl hW hS hf
      unfold f_X2_goes_37 at hf
      refine lv_istore (lv' := [(4, .int y7), (0, .ref v0)]) hx hb dX2_goes_37 hl (by decide) rfl (fun ls hl => ?_)
      refine lv_aload_n hx hb dX2_goes_39 rfl (lv_at hl 1 rfl) ?_
      obtain ⟨b8, hb8, hf⟩ := hf
      refine gm_getR (C := RX2) (T := TX2) (N := 13) (j := 3) hx hb hts inT_2 hown hK hW k1 (by decide) rfl (by decide) rfl (hts _ kw_242) rfl dX2_goes_40 hb8 ?_
      refine lv_aload_n hx hb dX2_goes_43 rfl (lv_at hl 1 rfl) ?_
      refine gm_ci (va_runV (As := []) (rest := [.ref b8]) ⟨hx, hb, hml, hown, hts⟩ (m_X2_slotOfKey l D cy tq _ Y _ _ _) (cwV 0 hts (good_V kw_1087 kw_1088 kw_1807 kw_10 kw_1089) rfl rfl rfl (by decide +kernel) ⟨Nat.le_of_ble_eq_true rfl, Nat.le_of_ble_eq_true rfl⟩) (gm_preV hK hW hC hS hA k1 (by decide) (q := (RX2, TX2, 13)) rfl rfl hf) rfl rfl hl.1 rfl (lv_room (Nat.le_of_ble_eq_true rfl)) dX2_goes_44 ⟨Nat.le_of_ble_eq_true rfl, Nat.le_of_ble_eq_true rfl⟩) hW hS hA (fun r10 M9 H locs hW hS hf => ?_)
      obtain ⟨k11, hf⟩ := hf
      obtain ⟨h12, hf⟩ := hf
      refine gm_iald hx hb hK hW k11 h12 dX2_goes_47 ?_
      refine lv_aload_n hx hb dX2_goes_48 rfl (lv_at hl 1 rfl) ?_
      obtain ⟨b13, hb13, hf⟩ := hf
      refine gm_getR (C := RX2) (T := TX2) (N := 13) (j := 2) hx hb hts inT_2 hown hK hW k1 (by decide) rfl (by decide) rfl (hts _ kw_241) rfl dX2_goes_49 hb13 ?_
      obtain ⟨k14, hf⟩ := hf
      refine gm_getI (C := RX10) (T := TX10) (N := 8) (j := 2) hx hb hts inT_10 hown hK hW k14 (by decide) rfl (by decide) rfl (hts _ kw_76) rfl dX2_goes_52 ?_
      have j79 : ∀ (y15 : Int32) (H : Heap) (locs : List Loc) (ls : Array Slot), lv_has ls 5 [] → Wd D cy A Y M9 H → va_S A s.heap H locs → f_X2_goes_79 Y Kn M9 y15 → W p l e rm_X2_goes s m args below meth c H locs 0 0 (MQ below (va_Qi Kn (BG D cy A Y) A) args s 0 0 A) (F0 m 79 ls [.int y15]) := by
        intro y15 H locs ls hl hW hS hf
        unfold f_X2_goes_79 at hf
        exact gm_zret hx hb hr hlocks hW hS hf.1 hf.2 dX2_goes_79
      have j74 : ∀ (H : Heap) (locs : List Loc) (ls : Array Slot), lv_has ls 5 [] → Wd D cy A Y M9 H → va_S A s.heap H locs → f_X2_goes_74 Y Kn M9  → W p l e rm_X2_goes s m args below meth c H locs 0 0 (MQ below (va_Qi Kn (BG D cy A Y) A) args s 0 0 A) (F0 m 74 ls []) := by
        intro  H locs ls hl hW hS hf
        unfold f_X2_goes_74 at hf
        refine lv_iconst (v := 1) hx hb dX2_goes_74 (by decide +kernel) ?_
        refine lv_goto (tgt := 79) hx hb dX2_goes_75 (by decide) ?_
        exact j79 _ _ _ _ (lv_sub hl [] rfl) hW hS hf
      refine lv_icmp_ne (tgt := 74) hx hb dX2_goes_55 (by decide) (fun c16 => ?_) (fun c16 => ?_)
      · replace hf := hf.1 c16
        exact j74  _ _ _ (lv_sub hl [] rfl) hW hS hf
      · replace hf := hf.2 c16
        refine lv_aload_n hx hb dX2_goes_58 rfl (lv_at hl 1 rfl) ?_
        obtain ⟨b17, hb17, hf⟩ := hf
        refine gm_getR (C := RX2) (T := TX2) (N := 13) (j := 2) hx hb hts inT_2 hown hK hW k1 (by decide) rfl (by decide) rfl (hts _ kw_241) rfl dX2_goes_59 hb17 ?_
        obtain ⟨k18, hf⟩ := hf
        refine gm_getI (C := RX10) (T := TX10) (N := 8) (j := 5) hx hb hts inT_10 hown hK hW k18 (by decide) rfl (by decide) rfl (hts _ kw_84) rfl dX2_goes_62 ?_
        refine lv_iconst (v := -1) hx hb dX2_goes_65 (by decide +kernel) ?_
        have j78 : ∀ (H : Heap) (locs : List Loc) (ls : Array Slot), lv_has ls 5 [] → Wd D cy A Y M9 H → va_S A s.heap H locs → f_X2_goes_78 Y Kn M9  → W p l e rm_X2_goes s m args below meth c H locs 0 0 (MQ below (va_Qi Kn (BG D cy A Y) A) args s 0 0 A) (F0 m 78 ls []) := by
          intro  H locs ls hl hW hS hf
          unfold f_X2_goes_78 at hf
          refine lv_iconst (v := 0) hx hb dX2_goes_78 (by decide +kernel) ?_
          exact j79 _ _ _ _ (lv_sub hl [] rfl) hW hS hf
        refine lv_icmp_ne (tgt := 78) hx hb dX2_goes_66 (by decide) (fun c19 => ?_) (fun c19 => ?_)
        · replace hf := hf.1 c19
          exact j78  _ _ _ (lv_sub hl [] rfl) hW hS hf
        · replace hf := hf.2 c19
          refine lv_iload hx hb dX2_goes_69 (lv_at hl 0 rfl) ?_
          refine lv_if_eq (tgt := 78) hx hb dX2_goes_71 (by decide) (fun c20 => ?_) (fun c20 => ?_)
          · replace hf := hf.1 c20
            exact j78  _ _ _ (lv_sub hl [] rfl) hW hS hf
          · replace hf := hf.2 c20
            exact j74  _ _ _ (lv_sub hl [] rfl) hW hS hf
    refine lv_if_gt (tgt := 36) hx hb dX2_goes_29 (by decide) (fun c21 => ?_) (fun c21 => ?_)
    · replace hf := hf.1 (lg_gt.mp c21)
      refine lv_iconst (v := 0) hx hb dX2_goes_36 (by decide +kernel) ?_
      exact j37 _ _ _ _ (lv_sub hl [0] rfl) hW hS hf
    · replace hf := hf.2 (fun z => c21 (lg_gt.mpr z))
      refine lv_iconst (v := 1) hx hb dX2_goes_32 (by decide +kernel) ?_
      refine lv_goto (tgt := 37) hx hb dX2_goes_33 (by decide) ?_
      exact j37 _ _ _ _ (lv_sub hl [0] rfl) hW hS hf
  · replace hf := hf.2 c4
    refine lv_iconst (v := 0) hx hb dX2_goes_11 (by decide +kernel) ?_
    exact gm_zret hx hb hr hlocks hW hS hf.1 hf.2 dX2_goes_12

abbrev rm_X2_stageKept : Room := { frames := 5, cells := 0, slots := 0, locals := 158 }
def f_X2_stageKept_223 (Y : Ly) (v0 : Nat) (Kn : Int32 → Mm → Prop) (x21 : Int32) (M25 : Mm) (b26 : Nat) (y27 : Int64) (M28 : Mm) : Prop :=
  f_X0_recount Y b26 (mI M25 v0 7) (mI M25 v0 8) y27 M28 (fun M29 => (∃ b30 : Nat, mR M29 v0 6 = some b30 ∧ (f_X0_finish Y b30 (mI M29 v0 7) x21 M29 (fun M31 => (Kn x21 M31)))))
def f_X2_stageKept_191 (Y : Ly) (v0 : Nat) (v1 : Int32) (Kn : Int32 → Mm → Prop) (x20 : Int64) (x21 : Int32) (M25 : Mm) : Prop :=
  ∃ b26 : Nat, mR M25 v0 6 = some b26 ∧ ((¬ (mI M25 v0 8) = 0 → (f_X2_stageKept_223 Y v0 Kn x21 M25 b26 x20 M25)) ∧ ((mI M25 v0 8) = 0 → (∃ b33 : Nat, mR M25 v0 1 = some b33 ∧ (f_X0_greatestTimeOf Y b33 v1 M25 (fun r35 M34 => (f_X2_stageKept_223 Y v0 Kn x21 M25 b26 r35 M34))))))
def f_X2_stageKept_176 (Y : Ly) (v0 : Nat) (x23 : Int32) (again70 : Int64 → Int32 → Int32 → Int32 → Mm → Prop) (x45 : Int64) (x46 : Int32) (M47 : Mm) : Prop :=
  ∃ b48 : Nat, mR M47 v0 2 = some b48 ∧ (yK Y b48 = 10 ∧ (∀ x50 : Int32, x50 = mI M47 b48 6 → (∀ x51 : Int32, x51 = x23 + 1 → (again70 x45 x46 x50 x51 M47))))
def L_X2_stageKept_70 (Y : Ly) (v0 : Nat) (v1 : Int32) (v2 : Int32) (Kn : Int32 → Mm → Prop) (r4 : Int32) (x8 : Int32) (r11 : Int64) (x20 : Int64) (x21 : Int32) (x22 : Int32) (x23 : Int32) (M24 : Mm) (again70 : Int64 → Int32 → Int32 → Int32 → Mm → Prop) : Prop :=
  (r4 ≤ x23 → (f_X2_stageKept_191 Y v0 v1 Kn x20 x21 M24)) ∧ (¬ (r4 ≤ x23) → (∃ b37 : Nat, mR M24 v0 2 = some b37 ∧ (∃ b38 : Nat, mR M24 v0 1 = some b38 ∧ (yK Y b37 = 10 ∧ (f_X10_read Y b37 b38 x22 x8 M24 (fun r40 M39 => ((r40 = 0 → (f_X2_stageKept_191 Y v0 v1 Kn x20 x21 M39)) ∧ (¬ (r40 = 0) → (f_X2_goes Y v0 r11 v2 M39 (fun r44 M43 => ((¬ r44 = 0 → (f_X2_stageKept_176 Y v0 x23 again70 x20 x21 M43)) ∧ (r44 = 0 → (∃ b53 : Nat, mR M43 v0 1 = some b53 ∧ (∃ b54 : Nat, mR M43 v0 6 = some b54 ∧ (∃ b55 : Nat, mR M43 v0 2 = some b55 ∧ (yK Y b55 = 10 ∧ (yK Y b53 = 100 ∧ (yK Y b54 = 100 ∧ (((¬ x22 < 0) ∧ (¬ ((mI M43 v0 7) + x21) < 0) ∧ (¬ ((mI M43 b55 6) - x22) < 0) ∧ x22.toNatClampNeg + ((mI M43 b55 6) - x22).toNatClampNeg ≤ yN Y b53 ∧ ((mI M43 v0 7) + x21).toNatClampNeg + ((mI M43 b55 6) - x22).toNatClampNeg ≤ yN Y b54) ∧ (∀ M60 : Mm, M60 = sI M43 b54 (va_cpy (mI M43 b53) (mI M43 b54) x22.toNatClampNeg ((mI M43 v0 7) + x21).toNatClampNeg ((mI M43 b55 6) - x22).toNatClampNeg) → (∃ b61 : Nat, mR M60 v0 2 = some b61 ∧ (yK Y b61 = 10 ∧ (∀ x63 : Int32, x63 = x21 + ((mI M60 b61 6) - x22) → (∃ b64 : Nat, mR M60 v0 2 = some b64 ∧ (yK Y b64 = 10 ∧ (∀ x66 : Int64, x66 = (if (r11 + (mJ M60 b64 0)) < x20 then x20 else (r11 + (mJ M60 b64 0))) → (∀ M67 : Mm, M67 = sI M60 v0 (m1 (mI M60 v0) 8 ((mI M60 v0 8) + 1)) → (f_X2_stageKept_176 Y v0 x23 again70 x66 x63 M67))))))))))))))))))))))))))))
def f_X2_stageKept (Y : Ly) (v0 : Nat) (v1 : Int32) (v2 : Int32) (M : Mm) (Kn : Int32 → Mm → Prop) : Prop :=
  yK Y v0 = 2 ∧ (∃ b2 : Nat, mR M v0 1 = some b2 ∧ (f_X0_countOf Y b2 v1 M (fun r4 M3 => (∃ b5 : Nat, mR M3 v0 1 = some b5 ∧ (f_X0_sizeOf Y b5 v1 M3 (fun r7 M6 => (∀ x8 : Int32, x8 = v1 + r7 → (∃ b9 : Nat, mR M6 v0 1 = some b9 ∧ (f_X0_firstTimeOf Y b9 v1 M6 (fun r11 M10 => (∀ x12 : Int32, x12 = v1 + 61 → (∀ M13 : Mm, M13 = sI M10 v0 (m1 (mI M10 v0) 8 0) → (∃ b14 : Nat, mR M13 v0 1 = some b14 ∧ (∃ b15 : Nat, mR M13 v0 6 = some b15 ∧ (yK Y b14 = 100 ∧ (yK Y b15 = 100 ∧ (((¬ v1 < 0) ∧ (¬ (mI M13 v0 7) < 0) ∧ (¬ (61 : Int32) < 0) ∧ v1.toNatClampNeg + (61 : Int32).toNatClampNeg ≤ yN Y b14 ∧ (mI M13 v0 7).toNatClampNeg + (61 : Int32).toNatClampNeg ≤ yN Y b15) ∧ (∀ M19 : Mm, M19 = sI M13 b15 (va_cpy (mI M13 b14) (mI M13 b15) v1.toNatClampNeg (mI M13 v0 7).toNatClampNeg (61 : Int32).toNatClampNeg) → (∃ n, LOOP5 (L_X2_stageKept_70 Y v0 v1 v2 Kn r4 x8 r11) n 0 61 x12 0 M19)))))))))))))))))))
set_option maxHeartbeats 4000000 in
set_option maxRecDepth 100000 in
theorem m_X2_stageKept (l : Launch) (D : va_G) (cy : Cy) (tq sz : Nat) (Y : Ly) (v0 : Nat) (v1 : Int32) (v2 : Int32) (M : Mm) (Kn : Int32 → Mm → Prop) : Met l yX2_stageKept (Cond.code yX2_stageKept cX2_stageKept 12 (some .int) :: TT) rm_X2_stageKept (PcG D cy tq [.ref v0, .int v1, .int v2] sz Y M (f_X2_stageKept Y v0 v1 v2 M Kn)) (va_Qi Kn (BG D cy (Am Y sz) Y) (Am Y sz)) 0 0 (Am Y sz) := by
  refine Met.ofW (cc := cX2_stageKept) (maxL := 12) (ret := (some .int)) (by decide) rfl ?_
  intro p e s m args below meth c s₁ B hml hv
  obtain ⟨hargs, hsz, hW, hK, hC, hf⟩ := hv
  subst hsz
  have hx := B.exec
  have hb := B.bytes
  have hr := B.returns
  have hts : ∀ w ∈ TT, w.before args s = true := fun w h => atoms_spec (ws := Cond.code yX2_stageKept cX2_stageKept 12 (some .int) :: TT) B.pre w (List.mem_cons_of_mem _ h)
  have hown : s.vm.findClass RX2 = some m.cls := findClass_of_methodNamed B.named
  have hlocks := B.notSynchronized
  replace hW := Wd_self (sz := s.heap.size) hW
  generalize hAe : Am Y s.heap.size = A at hW hC ⊢
  have hA : ∀ q : Nat, s.heap.size ≤ q → A q := fun q h => by rw [← hAe]; exact Or.inr h
  clear hAe
  have hS : va_S A s.heap s.heap [] := va_S.rf
  obtain ⟨ls, hE, hl⟩ := gm_entry m [.ref v0, .int v1, .int v2] (n := 12) hargs (Nat.le_of_ble_eq_true rfl)
  rw [hE]
  have hl : lv_has ls 12 [(0, .ref v0), (1, .int v1), (2, .int v2)] := hl
  show W p l e rm_X2_stageKept s m args below meth c s.heap [] 0 0 (MQ below (va_Qi Kn (BG D cy A Y) A) args s 0 0 A) (F0 m 0 ls [])
  unfold f_X2_stageKept at hf
  refine lv_aload_n hx hb dX2_stageKept_0 rfl (lv_at hl 0 rfl) ?_
  obtain ⟨k1, hf⟩ := hf
  obtain ⟨b2, hb2, hf⟩ := hf
  refine gm_getR (C := RX2) (T := TX2) (N := 13) (j := 1) hx hb hts inT_2 hown hK hW k1 (by decide) rfl (by decide) rfl (hts _ kw_240) rfl dX2_stageKept_1 hb2 ?_
  refine lv_iload_n hx hb dX2_stageKept_4 rfl (lv_at hl 1 rfl) ?_
  refine gm_ci (va_runS (As := [.ref b2, .int v1]) (rest := []) ⟨hx, hb, hml, hown, hts⟩ (m_X0_countOf l D cy tq _ Y _ _ _ _) (va_cwS 2 hts (good_S kw_1084 kw_782 kw_20 kw_783) rfl rfl rfl (by decide +kernel) ⟨Nat.le_of_ble_eq_true rfl, Nat.le_of_ble_eq_true rfl⟩) (gm_preS hK hW hC hS hA hf) rfl rfl hl.1 rfl (lv_room (Nat.le_of_ble_eq_true rfl)) dX2_stageKept_5 ⟨Nat.le_of_ble_eq_true rfl, Nat.le_of_ble_eq_true rfl⟩) hW hS hA (fun r4 M3 H locs hW hS hf => ?_)
  refine lv_istore_n (lv' := [(3, .int r4), (0, .ref v0), (1, .int v1), (2, .int v2)]) hx hb dX2_stageKept_8 rfl hl (by decide) rfl (fun ls hl => ?_)
  refine lv_iload_n hx hb dX2_stageKept_9 rfl (lv_at hl 2 rfl) ?_
  refine lv_aload_n hx hb dX2_stageKept_10 rfl (lv_at hl 1 rfl) ?_
  obtain ⟨b5, hb5, hf⟩ := hf
  refine gm_getR (C := RX2) (T := TX2) (N := 13) (j := 1) hx hb hts inT_2 hown hK hW k1 (by decide) rfl (by decide) rfl (hts _ kw_240) rfl dX2_stageKept_11 hb5 ?_
  refine lv_iload_n hx hb dX2_stageKept_14 rfl (lv_at hl 2 rfl) ?_
  refine gm_ci (va_runS (As := [.ref b5, .int v1]) (rest := [.int v1]) ⟨hx, hb, hml, hown, hts⟩ (m_X0_sizeOf l D cy tq _ Y _ _ _ _) (va_cwS 2 hts (good_S kw_1085 kw_355 kw_20 kw_356) rfl rfl rfl (by decide +kernel) ⟨Nat.le_of_ble_eq_true rfl, Nat.le_of_ble_eq_true rfl⟩) (gm_preS hK hW hC hS hA hf) rfl rfl hl.1 rfl (lv_room (Nat.le_of_ble_eq_true rfl)) dX2_stageKept_15 ⟨Nat.le_of_ble_eq_true rfl, Nat.le_of_ble_eq_true rfl⟩) hW hS hA (fun r7 M6 H locs hW hS hf => ?_)
  refine lv_iadd hx hb dX2_stageKept_18 ?_
  refine lv_topi (fun x8 ex8 => ?_)
  replace hf := hf x8 ex8
  refine lv_istore (lv' := [(4, .int x8), (3, .int r4), (0, .ref v0), (1, .int v1), (2, .int v2)]) hx hb dX2_stageKept_19 hl (by decide) rfl (fun ls hl => ?_)
  refine lv_aload_n hx hb dX2_stageKept_21 rfl (lv_at hl 2 rfl) ?_
  obtain ⟨b9, hb9, hf⟩ := hf
  refine gm_getR (C := RX2) (T := TX2) (N := 13) (j := 1) hx hb hts inT_2 hown hK hW k1 (by decide) rfl (by decide) rfl (hts _ kw_240) rfl dX2_stageKept_22 hb9 ?_
  refine lv_iload_n hx hb dX2_stageKept_25 rfl (lv_at hl 3 rfl) ?_
  refine gm_cl (va_runS (As := [.ref b9, .int v1]) (rest := []) ⟨hx, hb, hml, hown, hts⟩ (m_X0_firstTimeOf l D cy tq _ Y _ _ _ _) (va_cwS 2 hts (good_S kw_1100 kw_795 kw_20 kw_796) rfl rfl rfl (by decide +kernel) ⟨Nat.le_of_ble_eq_true rfl, Nat.le_of_ble_eq_true rfl⟩) (gm_preS hK hW hC hS hA hf) rfl rfl hl.1 rfl (lv_room (Nat.le_of_ble_eq_true rfl)) dX2_stageKept_26 ⟨Nat.le_of_ble_eq_true rfl, Nat.le_of_ble_eq_true rfl⟩) hW hS hA (fun r11 M10 H locs hW hS hf => ?_)
  refine lv_lstore (lv' := [(5, .long r11), (4, .int x8), (3, .int r4), (0, .ref v0), (1, .int v1), (2, .int v2)]) hx hb dX2_stageKept_29 hl (by decide) rfl (fun ls hl => ?_)
  refine lv_lconst (v := 0) hx hb dX2_stageKept_31 (by decide) ?_
  refine lv_lstore (lv' := [(7, .long 0), (5, .long r11), (4, .int x8), (3, .int r4), (0, .ref v0), (1, .int v1), (2, .int v2)]) hx hb dX2_stageKept_32 hl (by decide) rfl (fun ls hl => ?_)
  refine lv_bipush (v := 61) hx hb dX2_stageKept_34 (by decide +kernel) ?_
  refine lv_istore (lv' := [(9, .int 61), (7, .long 0), (5, .long r11), (4, .int x8), (3, .int r4), (0, .ref v0), (1, .int v1), (2, .int v2)]) hx hb dX2_stageKept_36 hl (by decide) rfl (fun ls hl => ?_)
  refine lv_iload_n hx hb dX2_stageKept_38 rfl (lv_at hl 6 rfl) ?_
  refine lv_bipush (v := 61) hx hb dX2_stageKept_39 (by decide +kernel) ?_
  refine lv_iadd hx hb dX2_stageKept_41 ?_
  refine lv_topi (fun x12 ex12 => ?_)
  replace hf := hf x12 ex12
  refine lv_istore (lv' := [(10, .int x12), (9, .int 61), (7, .long 0), (5, .long r11), (4, .int x8), (3, .int r4), (0, .ref v0), (1, .int v1), (2, .int v2)]) hx hb dX2_stageKept_42 hl (by decide) rfl (fun ls hl => ?_)
  refine lv_aload_n hx hb dX2_stageKept_44 rfl (lv_at hl 6 rfl) ?_
  refine lv_iconst (v := 0) hx hb dX2_stageKept_45 (by decide +kernel) ?_
  refine gm_putI (C := RX2) (T := TX2) (N := 13) (j := 8) hx hb hts inT_2 tyX2 tyX2_ok nmX2 hown hK hW hS k1 (by decide) rfl (by decide) rfl (hts _ kw_247) rfl rfl rfl rfl dX2_stageKept_46 (fun H locs M13 eM13 hW hS => ?_)
  replace hf := hf M13 eM13
  refine lv_aload_n hx hb dX2_stageKept_49 rfl (lv_at hl 6 rfl) ?_
  obtain ⟨b14, hb14, hf⟩ := hf
  refine gm_getR (C := RX2) (T := TX2) (N := 13) (j := 1) hx hb hts inT_2 hown hK hW k1 (by decide) rfl (by decide) rfl (hts _ kw_240) rfl dX2_stageKept_50 hb14 ?_
  refine lv_iload_n hx hb dX2_stageKept_53 rfl (lv_at hl 7 rfl) ?_
  refine lv_aload_n hx hb dX2_stageKept_54 rfl (lv_at hl 6 rfl) ?_
  obtain ⟨b15, hb15, hf⟩ := hf
  refine gm_getR (C := RX2) (T := TX2) (N := 13) (j := 6) hx hb hts inT_2 hown hK hW k1 (by decide) rfl (by decide) rfl (hts _ kw_245) rfl dX2_stageKept_55 hb15 ?_
  refine lv_aload_n hx hb dX2_stageKept_58 rfl (lv_at hl 6 rfl) ?_
  refine gm_getI (C := RX2) (T := TX2) (N := 13) (j := 7) hx hb hts inT_2 hown hK hW k1 (by decide) rfl (by decide) rfl (hts _ kw_246) rfl dX2_stageKept_59 ?_
  refine lv_bipush (v := 61) hx hb dX2_stageKept_62 (by decide +kernel) ?_
  obtain ⟨k16, hf⟩ := hf
  obtain ⟨k17, hf⟩ := hf
  obtain ⟨h18, hf⟩ := hf
  refine gm_copyb hx hb (by rw [hml]; exact hl.1.symm) hown (hts _ kw_1101) (hts _ kw_534) (hts _ kw_533) (hts _ kw_19) hK hW hS k16 k17 h18 (Nat.le_of_ble_eq_true rfl) (Nat.le_of_ble_eq_true rfl) dX2_stageKept_64 (fun H locs M19 eM19 hW hS => ?_)
  replace hf := hf M19 eM19
  refine lv_iconst (v := 0) hx hb dX2_stageKept_67 (by decide +kernel) ?_
  refine lv_istore (lv' := [(11, .int 0), (10, .int x12), (9, .int 61), (7, .long 0), (5, .long r11), (4, .int x8), (3, .int r4), (0, .ref v0), (1, .int v1), (2, .int v2)]) hx hb dX2_stageKept_68 hl (by decide) rfl (fun ls hl => ?_)
  obtain ⟨n70, hf⟩ := hf
  have lp70 : ∀ (n70 : Nat) (x20 : Int64) (x21 : Int32) (x22 : Int32) (x23 : Int32) (M24 : Mm) (H : Heap) (locs : List Loc) (ls : Array Slot), lv_has ls 12 [(0, .ref v0), (1, .int v1), (2, .int v2), (3, .int r4), (4, .int x8), (5, .long r11), (7, .long x20), (9, .int x21), (10, .int x22), (11, .int x23)] → Wd D cy A Y M24 H → va_S A s.heap H locs → LOOP5 (L_X2_stageKept_70 Y v0 v1 v2 Kn r4 x8 r11) n70 x20 x21 x22 x23 M24 → W p l e rm_X2_stageKept s m args below meth c H locs 0 0 (MQ below (va_Qi Kn (BG D cy A Y) A) args s 0 0 A) (F0 m 70 ls []) := by
    intro n70
    induction n70 with
    | zero => intro x20 x21 x22 x23 M24 H locs ls hl hW hS hf; exact hf.elim
    | succ n70 ih70 =>
      intro x20 x21 x22 x23 M24 H locs ls hl hW hS hf
      replace hf : L_X2_stageKept_70 Y v0 v1 v2 Kn r4 x8 r11 x20 x21 x22 x23 M24 (LOOP5 (L_X2_stageKept_70 Y v0 v1 v2 Kn r4 x8 r11) n70) := hf
      unfold L_X2_stageKept_70 at hf
      refine lv_iload hx hb dX2_stageKept_70 (lv_at hl 9 rfl) ?_
      refine lv_iload_n hx hb dX2_stageKept_72 rfl (lv_at hl 3 rfl) ?_
      have j191 : ∀ (M25 : Mm) (H : Heap) (locs : List Loc) (ls : Array Slot), lv_has ls 12 [(0, .ref v0), (1, .int v1), (7, .long x20), (9, .int x21)] → Wd D cy A Y M25 H → va_S A s.heap H locs → f_X2_stageKept_191 Y v0 v1 Kn x20 x21 M25 → W p l e rm_X2_stageKept s m args below meth c H locs 0 0 (MQ below (va_Qi Kn (BG D cy A Y) A) args s 0 0 A) (F0 m 191 ls []) := by
        intro M25 H locs ls hl hW hS hf
        unfold f_X2_stageKept_191 at hf
        refine lv_aload_n hx hb dX2_stageKept_191 rfl (lv_at hl 0 rfl) ?_
        obtain ⟨b26, hb26, hf⟩ := hf
        refine gm_getR (C := RX2) (T := TX2) (N := 13) (j := 6) hx hb hts inT_2 hown hK hW k1 (by decide) rfl (by decide) rfl (hts _ kw_245) rfl dX2_stageKept_192 hb26 ?_
        refine lv_aload_n hx hb dX2_stageKept_195 rfl (lv_at hl 0 rfl) ?_
        refine gm_getI (C := RX2) (T := TX2) (N := 13) (j := 7) hx hb hts inT_2 hown hK hW k1 (by decide) rfl (by decide) rfl (hts _ kw_246) rfl dX2_stageKept_196 ?_
        refine lv_aload_n hx hb dX2_stageKept_199 rfl (lv_at hl 0 rfl) ?_
        refine gm_getI (C := RX2) (T := TX2) (N := 13) (j := 8) hx hb hts inT_2 hown hK hW k1 (by decide) rfl (by decide) rfl (hts _ kw_247) rfl dX2_stageKept_200 ?_
        refine lv_aload_n hx hb dX2_stageKept_203 rfl (lv_at hl 0 rfl) ?_
        refine gm_getI (C := RX2) (T := TX2) (N := 13) (j := 8) hx hb hts inT_2 hown hK hW k1 (by decide) rfl (by decide) rfl (hts _ kw_247) rfl dX2_stageKept_204 ?_
        have j223 : ∀ (y27 : Int64) (M28 : Mm) (H : Heap) (locs : List Loc) (ls : Array Slot), lv_has ls 12 [(0, .ref v0), (9, .int x21)] → Wd D cy A Y M28 H → va_S A s.heap H locs → f_X2_stageKept_223 Y v0 Kn x21 M25 b26 y27 M28 → W p l e rm_X2_stageKept s m args below meth c H locs 0 0 (MQ below (va_Qi Kn (BG D cy A Y) A) args s 0 0 A) (F0 m 223 ls [.long y27, .int (mI M25 v0 8), .int (mI M25 v0 7), .ref b26]) := by
          intro y27 M28 H locs ls hl hW hS hf
          unfold f_X2_stageKept_223 at hf
          refine gm_cv (va_runS (As := [.ref b26, .int (mI M25 v0 7), .int (mI M25 v0 8), .long y27]) (rest := []) ⟨hx, hb, hml, hown, hts⟩ (m_X0_recount l D cy tq _ Y _ _ _ _ _ _) (va_cwS 4 hts (good_S kw_1107 kw_1108 kw_20 kw_1109) rfl rfl rfl (by decide +kernel) ⟨Nat.le_of_ble_eq_true rfl, Nat.le_of_ble_eq_true rfl⟩) (gm_preS hK hW hC hS hA hf) rfl rfl hl.1 rfl (lv_room (Nat.le_of_ble_eq_true rfl)) dX2_stageKept_223 ⟨Nat.le_of_ble_eq_true rfl, Nat.le_of_ble_eq_true rfl⟩) hW hS hA (fun M29 H locs hW hS hf => ?_)
          refine lv_aload_n hx hb dX2_stageKept_226 rfl (lv_at hl 0 rfl) ?_
          obtain ⟨b30, hb30, hf⟩ := hf
          refine gm_getR (C := RX2) (T := TX2) (N := 13) (j := 6) hx hb hts inT_2 hown hK hW k1 (by decide) rfl (by decide) rfl (hts _ kw_245) rfl dX2_stageKept_227 hb30 ?_
          refine lv_aload_n hx hb dX2_stageKept_230 rfl (lv_at hl 0 rfl) ?_
          refine gm_getI (C := RX2) (T := TX2) (N := 13) (j := 7) hx hb hts inT_2 hown hK hW k1 (by decide) rfl (by decide) rfl (hts _ kw_246) rfl dX2_stageKept_231 ?_
          refine lv_iload hx hb dX2_stageKept_234 (lv_at hl 1 rfl) ?_
          refine gm_cv (va_runS (As := [.ref b30, .int (mI M29 v0 7), .int x21]) (rest := []) ⟨hx, hb, hml, hown, hts⟩ (m_X0_finish l D cy tq _ Y _ _ _ _ _) (va_cwS 3 hts (good_S kw_1110 kw_753 kw_20 kw_754) rfl rfl rfl (by decide +kernel) ⟨Nat.le_of_ble_eq_true rfl, Nat.le_of_ble_eq_true rfl⟩) (gm_preS hK hW hC hS hA hf) rfl rfl hl.1 rfl (lv_room (Nat.le_of_ble_eq_true rfl)) dX2_stageKept_236 ⟨Nat.le_of_ble_eq_true rfl, Nat.le_of_ble_eq_true rfl⟩) hW hS hA (fun M31 H locs hW hS hf => ?_)
          refine lv_iload hx hb dX2_stageKept_239 (lv_at hl 1 rfl) ?_
          exact gm_iret hx hb hr hlocks hW hS hf dX2_stageKept_241
        refine lv_if_ne (tgt := 221) hx hb dX2_stageKept_207 (by decide) (fun c32 => ?_) (fun c32 => ?_)
        · replace hf := hf.1 c32
          refine lv_lload hx hb dX2_stageKept_221 (lv_at hl 2 rfl) ?_
          exact j223 _ _ _ _ _ (lv_sub hl [0, 3] rfl) hW hS hf
        · replace hf := hf.2 c32
          refine lv_aload_n hx hb dX2_stageKept_210 rfl (lv_at hl 0 rfl) ?_
          obtain ⟨b33, hb33, hf⟩ := hf
          refine gm_getR (C := RX2) (T := TX2) (N := 13) (j := 1) hx hb hts inT_2 hown hK hW k1 (by decide) rfl (by decide) rfl (hts _ kw_240) rfl dX2_stageKept_211 hb33 ?_
          refine lv_iload_n hx hb dX2_stageKept_214 rfl (lv_at hl 1 rfl) ?_
          refine gm_cl (va_runS (As := [.ref b33, .int v1]) (rest := [.int (mI M25 v0 8), .int (mI M25 v0 7), .ref b26]) ⟨hx, hb, hml, hown, hts⟩ (m_X0_greatestTimeOf l D cy tq _ Y _ _ _ _) (va_cwS 2 hts (good_S kw_1106 kw_799 kw_20 kw_800) rfl rfl rfl (by decide +kernel) ⟨Nat.le_of_ble_eq_true rfl, Nat.le_of_ble_eq_true rfl⟩) (gm_preS hK hW hC hS hA hf) rfl rfl hl.1 rfl (lv_room (Nat.le_of_ble_eq_true rfl)) dX2_stageKept_215 ⟨Nat.le_of_ble_eq_true rfl, Nat.le_of_ble_eq_true rfl⟩) hW hS hA (fun r35 M34 H locs hW hS hf => ?_)
          refine lv_goto (tgt := 223) hx hb dX2_stageKept_218 (by decide) ?_
          exact j223 _ _ _ _ _ (lv_sub hl [0, 3] rfl) hW hS hf
      refine lv_icmp_ge (tgt := 191) hx hb dX2_stageKept_73 (by decide) (fun c36 => ?_) (fun c36 => ?_)
      · replace hf := hf.1 c36
        exact j191 _ _ _ _ (lv_sub hl [0, 1, 6, 7] rfl) hW hS hf
      · replace hf := hf.2 c36
        refine lv_aload_n hx hb dX2_stageKept_76 rfl (lv_at hl 0 rfl) ?_
        obtain ⟨b37, hb37, hf⟩ := hf
        refine gm_getR (C := RX2) (T := TX2) (N := 13) (j := 2) hx hb hts inT_2 hown hK hW k1 (by decide) rfl (by decide) rfl (hts _ kw_241) rfl dX2_stageKept_77 hb37 ?_
        refine lv_aload_n hx hb dX2_stageKept_80 rfl (lv_at hl 0 rfl) ?_
        obtain ⟨b38, hb38, hf⟩ := hf
        refine gm_getR (C := RX2) (T := TX2) (N := 13) (j := 1) hx hb hts inT_2 hown hK hW k1 (by decide) rfl (by decide) rfl (hts _ kw_240) rfl dX2_stageKept_81 hb38 ?_
        refine lv_iload hx hb dX2_stageKept_84 (lv_at hl 8 rfl) ?_
        refine lv_iload hx hb dX2_stageKept_86 (lv_at hl 4 rfl) ?_
        obtain ⟨k41, hf⟩ := hf
        refine gm_ci (va_runV (As := [.ref b38, .int x22, .int x8]) (rest := []) ⟨hx, hb, hml, hown, hts⟩ (m_X10_read l D cy tq _ Y _ _ _ _ _ _) (cwV 3 hts (good_V kw_1086 kw_819 kw_820 kw_4 kw_821) rfl rfl rfl (by decide +kernel) ⟨Nat.le_of_ble_eq_true rfl, Nat.le_of_ble_eq_true rfl⟩) (gm_preV hK hW hC hS hA k41 (by decide) (q := (RX10, TX10, 8)) rfl rfl hf) rfl rfl hl.1 rfl (lv_room (Nat.le_of_ble_eq_true rfl)) dX2_stageKept_88 ⟨Nat.le_of_ble_eq_true rfl, Nat.le_of_ble_eq_true rfl⟩) hW hS hA (fun r40 M39 H locs hW hS hf => ?_)
        refine lv_if_eq (tgt := 191) hx hb dX2_stageKept_91 (by decide) (fun c42 => ?_) (fun c42 => ?_)
        · replace hf := hf.1 c42
          exact j191 _ _ _ _ (lv_sub hl [0, 1, 6, 7] rfl) hW hS hf
        · replace hf := hf.2 c42
          refine lv_aload_n hx hb dX2_stageKept_94 rfl (lv_at hl 0 rfl) ?_
          refine lv_lload hx hb dX2_stageKept_95 (lv_at hl 5 rfl) ?_
          refine lv_iload_n hx hb dX2_stageKept_97 rfl (lv_at hl 2 rfl) ?_
          refine gm_ci (va_runV (As := [.long r11, .int v2]) (rest := []) ⟨hx, hb, hml, hown, hts⟩ (m_X2_goes l D cy tq _ Y _ _ _ _ _) (cwV 2 hts (good_V kw_1102 kw_1103 kw_1810 kw_10 kw_1104) rfl rfl rfl (by decide +kernel) ⟨Nat.le_of_ble_eq_true rfl, Nat.le_of_ble_eq_true rfl⟩) (gm_preV hK hW hC hS hA k1 (by decide) (q := (RX2, TX2, 13)) rfl rfl hf) rfl rfl hl.1 rfl (lv_room (Nat.le_of_ble_eq_true rfl)) dX2_stageKept_98 ⟨Nat.le_of_ble_eq_true rfl, Nat.le_of_ble_eq_true rfl⟩) hW hS hA (fun r44 M43 H locs hW hS hf => ?_)
          have j176 : ∀ (x45 : Int64) (x46 : Int32) (M47 : Mm) (H : Heap) (locs : List Loc) (ls : Array Slot), lv_has ls 12 [(0, .ref v0), (1, .int v1), (2, .int v2), (3, .int r4), (4, .int x8), (5, .long r11), (7, .long x45), (9, .int x46), (11, .int x23)] → Wd D cy A Y M47 H → va_S A s.heap H locs → f_X2_stageKept_176 Y v0 x23 (LOOP5 (L_X2_stageKept_70 Y v0 v1 v2 Kn r4 x8 r11) n70) x45 x46 M47 → W p l e rm_X2_stageKept s m args below meth c H locs 0 0 (MQ below (va_Qi Kn (BG D cy A Y) A) args s 0 0 A) (F0 m 176 ls []) := by
            intro x45 x46 M47 H locs ls hl hW hS hf
            unfold f_X2_stageKept_176 at hf
            refine lv_aload_n hx hb dX2_stageKept_176 rfl (lv_at hl 0 rfl) ?_
            obtain ⟨b48, hb48, hf⟩ := hf
            refine gm_getR (C := RX2) (T := TX2) (N := 13) (j := 2) hx hb hts inT_2 hown hK hW k1 (by decide) rfl (by decide) rfl (hts _ kw_241) rfl dX2_stageKept_177 hb48 ?_
            obtain ⟨k49, hf⟩ := hf
            refine gm_getI (C := RX10) (T := TX10) (N := 8) (j := 6) hx hb hts inT_10 hown hK hW k49 (by decide) rfl (by decide) rfl (hts _ kw_87) rfl dX2_stageKept_180 ?_
            refine lv_topi (fun x50 ex50 => ?_)
            replace hf := hf x50 ex50
            refine lv_istore (lv' := [(10, .int x50), (0, .ref v0), (1, .int v1), (2, .int v2), (3, .int r4), (4, .int x8), (5, .long r11), (7, .long x45), (9, .int x46), (11, .int x23)]) hx hb dX2_stageKept_183 hl (by decide) rfl (fun ls hl => ?_)
            obtain ⟨x51, ex51⟩ : ∃ y : Int32, y = x23 + 1 := ⟨_, rfl⟩
            replace hf := hf x51 ex51
            refine lv_iinc (v := x51) (lv' := [(11, .int x51), (10, .int x50), (0, .ref v0), (1, .int v1), (2, .int v2), (3, .int r4), (4, .int x8), (5, .long r11), (7, .long x45), (9, .int x46)]) hx hb dX2_stageKept_185 hl (k := 9) rfl (by rw [ex51]; rfl) (by decide) rfl (fun ls hl => ?_)
            refine lv_goto (tgt := 70) hx hb dX2_stageKept_188 (by decide) ?_
            exact ih70 _ _ _ _ _ _ _ _ (lv_sub hl [2, 3, 4, 5, 6, 7, 8, 9, 1, 0] rfl) hW hS hf
          refine lv_if_ne (tgt := 176) hx hb dX2_stageKept_101 (by decide) (fun c52 => ?_) (fun c52 => ?_)
          · replace hf := hf.1 c52
            exact j176 _ _ _ _ _ _ (lv_sub hl [0, 1, 2, 3, 4, 5, 6, 7, 9] rfl) hW hS hf
          · replace hf := hf.2 c52
            refine lv_aload_n hx hb dX2_stageKept_104 rfl (lv_at hl 0 rfl) ?_
            obtain ⟨b53, hb53, hf⟩ := hf
            refine gm_getR (C := RX2) (T := TX2) (N := 13) (j := 1) hx hb hts inT_2 hown hK hW k1 (by decide) rfl (by decide) rfl (hts _ kw_240) rfl dX2_stageKept_105 hb53 ?_
            refine lv_iload hx hb dX2_stageKept_108 (lv_at hl 8 rfl) ?_
            refine lv_aload_n hx hb dX2_stageKept_110 rfl (lv_at hl 0 rfl) ?_
            obtain ⟨b54, hb54, hf⟩ := hf
            refine gm_getR (C := RX2) (T := TX2) (N := 13) (j := 6) hx hb hts inT_2 hown hK hW k1 (by decide) rfl (by decide) rfl (hts _ kw_245) rfl dX2_stageKept_111 hb54 ?_
            refine lv_aload_n hx hb dX2_stageKept_114 rfl (lv_at hl 0 rfl) ?_
            refine gm_getI (C := RX2) (T := TX2) (N := 13) (j := 7) hx hb hts inT_2 hown hK hW k1 (by decide) rfl (by decide) rfl (hts _ kw_246) rfl dX2_stageKept_115 ?_
            refine lv_iload hx hb dX2_stageKept_118 (lv_at hl 7 rfl) ?_
            refine lv_iadd hx hb dX2_stageKept_120 ?_
            refine lv_aload_n hx hb dX2_stageKept_121 rfl (lv_at hl 0 rfl) ?_
            obtain ⟨b55, hb55, hf⟩ := hf
            refine gm_getR (C := RX2) (T := TX2) (N := 13) (j := 2) hx hb hts inT_2 hown hK hW k1 (by decide) rfl (by decide) rfl (hts _ kw_241) rfl dX2_stageKept_122 hb55 ?_
            obtain ⟨k56, hf⟩ := hf
            refine gm_getI (C := RX10) (T := TX10) (N := 8) (j := 6) hx hb hts inT_10 hown hK hW k56 (by decide) rfl (by decide) rfl (hts _ kw_87) rfl dX2_stageKept_125 ?_
            refine lv_iload hx hb dX2_stageKept_128 (lv_at hl 8 rfl) ?_
            refine lv_isub hx hb dX2_stageKept_130 ?_
            obtain ⟨k57, hf⟩ := hf
            obtain ⟨k58, hf⟩ := hf
            obtain ⟨h59, hf⟩ := hf
            refine gm_copyb hx hb (by rw [hml]; exact hl.1.symm) hown (hts _ kw_1101) (hts _ kw_534) (hts _ kw_533) (hts _ kw_19) hK hW hS k57 k58 h59 (Nat.le_of_ble_eq_true rfl) (Nat.le_of_ble_eq_true rfl) dX2_stageKept_131 (fun H locs M60 eM60 hW hS => ?_)
            replace hf := hf M60 eM60
            refine lv_iload hx hb dX2_stageKept_134 (lv_at hl 7 rfl) ?_
            refine lv_aload_n hx hb dX2_stageKept_136 rfl (lv_at hl 0 rfl) ?_
            obtain ⟨b61, hb61, hf⟩ := hf
            refine gm_getR (C := RX2) (T := TX2) (N := 13) (j := 2) hx hb hts inT_2 hown hK hW k1 (by decide) rfl (by decide) rfl (hts _ kw_241) rfl dX2_stageKept_137 hb61 ?_
            obtain ⟨k62, hf⟩ := hf
            refine gm_getI (C := RX10) (T := TX10) (N := 8) (j := 6) hx hb hts inT_10 hown hK hW k62 (by decide) rfl (by decide) rfl (hts _ kw_87) rfl dX2_stageKept_140 ?_
            refine lv_iload hx hb dX2_stageKept_143 (lv_at hl 8 rfl) ?_
            refine lv_isub hx hb dX2_stageKept_145 ?_
            refine lv_iadd hx hb dX2_stageKept_146 ?_
            refine lv_topi (fun x63 ex63 => ?_)
            replace hf := hf x63 ex63
            refine lv_istore (lv' := [(9, .int x63), (0, .ref v0), (1, .int v1), (2, .int v2), (3, .int r4), (4, .int x8), (5, .long r11), (7, .long x20), (10, .int x22), (11, .int x23)]) hx hb dX2_stageKept_147 hl (by decide) rfl (fun ls hl => ?_)
            refine lv_lload hx hb dX2_stageKept_149 (lv_at hl 7 rfl) ?_
            refine lv_lload hx hb dX2_stageKept_151 (lv_at hl 6 rfl) ?_
            refine lv_aload_n hx hb dX2_stageKept_153 rfl (lv_at hl 1 rfl) ?_
            obtain ⟨b64, hb64, hf⟩ := hf
            refine gm_getR (C := RX2) (T := TX2) (N := 13) (j := 2) hx hb hts inT_2 hown hK hW k1 (by decide) rfl (by decide) rfl (hts _ kw_241) rfl dX2_stageKept_154 hb64 ?_
            obtain ⟨k65, hf⟩ := hf
            refine gm_getJ (C := RX10) (T := TX10) (N := 8) (j := 0) hx hb hts inT_10 hown hK hW k65 (by decide) rfl (by decide) rfl (hts _ kw_67) rfl dX2_stageKept_157 ?_
            refine lv_ladd hx hb dX2_stageKept_160 ?_
            refine va_mmax_long hx hb (by rw [hml]; exact hl.1.symm) hown (hts _ kw_1105) (hts _ kw_381) (hts _ kw_6) (hts _ kmath_maxJ) (Nat.le_of_ble_eq_true rfl) (Nat.le_of_ble_eq_true rfl) (Nat.zero_le _) (Nat.zero_le _) dX2_stageKept_161 ?_
            refine lv_topl (fun x66 ex66 => ?_)
            replace hf := hf x66 ex66
            refine lv_lstore (lv' := [(7, .long x66), (9, .int x63), (0, .ref v0), (1, .int v1), (2, .int v2), (3, .int r4), (4, .int x8), (5, .long r11), (10, .int x22), (11, .int x23)]) hx hb dX2_stageKept_164 hl (by decide) rfl (fun ls hl => ?_)
            refine lv_aload_n hx hb dX2_stageKept_166 rfl (lv_at hl 2 rfl) ?_
            refine lv_dup hx hb dX2_stageKept_167 rfl ?_
            refine gm_getI (C := RX2) (T := TX2) (N := 13) (j := 8) hx hb hts inT_2 hown hK hW k1 (by decide) rfl (by decide) rfl (hts _ kw_247) rfl dX2_stageKept_168 ?_
            refine lv_iconst (v := 1) hx hb dX2_stageKept_171 (by decide +kernel) ?_
            refine lv_iadd hx hb dX2_stageKept_172 ?_
            refine gm_putI (C := RX2) (T := TX2) (N := 13) (j := 8) hx hb hts inT_2 tyX2 tyX2_ok nmX2 hown hK hW hS k1 (by decide) rfl (by decide) rfl (hts _ kw_247) rfl rfl rfl rfl dX2_stageKept_173 (fun H locs M67 eM67 hW hS => ?_)
            replace hf := hf M67 eM67
            exact j176 _ _ _ _ _ _ (lv_sub hl [2, 3, 4, 5, 6, 7, 0, 1, 9] rfl) hW hS hf
  exact lp70 n70 _ _ _ _ _ _ _ _ (lv_sub hl [7, 8, 9, 6, 5, 4, 3, 2, 1, 0] rfl) hW hS hf

abbrev rm_X2_findRoom : Room := { frames := 4, cells := 0, slots := 0, locals := 128 }
def L_X2_findRoom_9 (Y : Ly) (v0 : Nat) (Kn : Int32 → Mm → Prop) (x5 : Int32) (M6 : Mm) (again9 : Int32 → Mm → Prop) : Prop :=
  ((mI M6 v0 9) ≤ x5 → (bz 1 ∧ Kn 1 M6)) ∧ (¬ ((mI M6 v0 9) ≤ x5) → (∃ b8 : Nat, mR M6 v0 10 = some b8 ∧ (∃ b9 : Nat, mR M6 v0 0 = some b9 ∧ (yK Y b9 = 9 ∧ (f_X9_takeSegment Y b9 M6 (fun r11 M10 => (yK Y b8 = 101 ∧ (vp_in x5 (yN Y b8) ∧ (∀ M15 : Mm, M15 = sI M10 b8 (m1 (mI M10 b8) x5.toNatClampNeg r11) → (∃ b16 : Nat, mR M15 v0 10 = some b16 ∧ (yK Y b16 = 101 ∧ (vp_in x5 (yN Y b16) ∧ ((¬ (mI M15 b16 x5.toNatClampNeg) = (-1) → (∀ x20 : Int32, x20 = x5 + 1 → (again9 x20 M15))) ∧ ((mI M15 b16 x5.toNatClampNeg) = (-1) → (bz 0 ∧ Kn 0 M15)))))))))))))))
def f_X2_findRoom (Y : Ly) (v0 : Nat) (M : Mm) (Kn : Int32 → Mm → Prop) : Prop :=
  yK Y v0 = 2 ∧ (∃ b2 : Nat, mR M v0 0 = some b2 ∧ (yK Y b2 = 9 ∧ (f_X9_countUses Y b2 M (fun M3 => (∃ n, LOOP2 (L_X2_findRoom_9 Y v0 Kn) n 0 M3)))))
set_option maxHeartbeats 4000000 in
set_option maxRecDepth 100000 in
theorem m_X2_findRoom (l : Launch) (D : va_G) (cy : Cy) (tq sz : Nat) (Y : Ly) (v0 : Nat) (M : Mm) (Kn : Int32 → Mm → Prop) : Met l yX2_findRoom (Cond.code yX2_findRoom cX2_findRoom 2 (some .boolean) :: TT) rm_X2_findRoom (PcG D cy tq [.ref v0] sz Y M (f_X2_findRoom Y v0 M Kn)) (va_Qi Kn (BG D cy (Am Y sz) Y) (Am Y sz)) 0 0 (Am Y sz) := by
  refine Met.ofW (cc := cX2_findRoom) (maxL := 2) (ret := (some .boolean)) (by decide) rfl ?_
  intro p e s m args below meth c s₁ B hml hv
  obtain ⟨hargs, hsz, hW, hK, hC, hf⟩ := hv
  subst hsz
  have hx := B.exec
  have hb := B.bytes
  have hr := B.returns
  have hts : ∀ w ∈ TT, w.before args s = true := fun w h => atoms_spec (ws := Cond.code yX2_findRoom cX2_findRoom 2 (some .boolean) :: TT) B.pre w (List.mem_cons_of_mem _ h)
  have hown : s.vm.findClass RX2 = some m.cls := findClass_of_methodNamed B.named
  have hlocks := B.notSynchronized
  replace hW := Wd_self (sz := s.heap.size) hW
  generalize hAe : Am Y s.heap.size = A at hW hC ⊢
  have hA : ∀ q : Nat, s.heap.size ≤ q → A q := fun q h => by rw [← hAe]; exact Or.inr h
  clear hAe
  have hS : va_S A s.heap s.heap [] := va_S.rf
  obtain ⟨ls, hE, hl⟩ := gm_entry m [.ref v0] (n := 2) hargs (Nat.le_of_ble_eq_true rfl)
  rw [hE]
  have hl : lv_has ls 2 [(0, .ref v0)] := hl
  show W p l e rm_X2_findRoom s m args below meth c s.heap [] 0 0 (MQ below (va_Qi Kn (BG D cy A Y) A) args s 0 0 A) (F0 m 0 ls [])
  unfold f_X2_findRoom at hf
  refine lv_aload_n hx hb dX2_findRoom_0 rfl (lv_at hl 0 rfl) ?_
  obtain ⟨k1, hf⟩ := hf
  obtain ⟨b2, hb2, hf⟩ := hf
  refine gm_getR (C := RX2) (T := TX2) (N := 13) (j := 0) hx hb hts inT_2 hown hK hW k1 (by decide) rfl (by decide) rfl (hts _ kw_239) rfl dX2_findRoom_1 hb2 ?_
  obtain ⟨k4, hf⟩ := hf
  refine gm_cv (va_runV (As := []) (rest := []) ⟨hx, hb, hml, hown, hts⟩ (m_X9_countUses l D cy tq _ Y _ _ _) (cwV 0 hts (good_V kw_1121 kw_900 kw_901 kw_8 kw_902) rfl rfl rfl (by decide +kernel) ⟨Nat.le_of_ble_eq_true rfl, Nat.le_of_ble_eq_true rfl⟩) (gm_preV hK hW hC hS hA k4 (by decide) (q := (RX9, TX9, 7)) rfl rfl hf) rfl rfl hl.1 rfl (lv_room (Nat.le_of_ble_eq_true rfl)) dX2_findRoom_4 ⟨Nat.le_of_ble_eq_true rfl, Nat.le_of_ble_eq_true rfl⟩) hW hS hA (fun M3 H locs hW hS hf => ?_)
  refine lv_iconst (v := 0) hx hb dX2_findRoom_7 (by decide +kernel) ?_
  refine lv_istore_n (lv' := [(1, .int 0), (0, .ref v0)]) hx hb dX2_findRoom_8 rfl hl (by decide) rfl (fun ls hl => ?_)
  obtain ⟨n9, hf⟩ := hf
  have lp9 : ∀ (n9 : Nat) (x5 : Int32) (M6 : Mm) (H : Heap) (locs : List Loc) (ls : Array Slot), lv_has ls 2 [(0, .ref v0), (1, .int x5)] → Wd D cy A Y M6 H → va_S A s.heap H locs → LOOP2 (L_X2_findRoom_9 Y v0 Kn) n9 x5 M6 → W p l e rm_X2_findRoom s m args below meth c H locs 0 0 (MQ below (va_Qi Kn (BG D cy A Y) A) args s 0 0 A) (F0 m 9 ls []) := by
    intro n9
    induction n9 with
    | zero => intro x5 M6 H locs ls hl hW hS hf; exact hf.elim
    | succ n9 ih9 =>
      intro x5 M6 H locs ls hl hW hS hf
      replace hf : L_X2_findRoom_9 Y v0 Kn x5 M6 (LOOP2 (L_X2_findRoom_9 Y v0 Kn) n9) := hf
      unfold L_X2_findRoom_9 at hf
      refine lv_iload_n hx hb dX2_findRoom_9 rfl (lv_at hl 1 rfl) ?_
      refine lv_aload_n hx hb dX2_findRoom_10 rfl (lv_at hl 0 rfl) ?_
      refine gm_getI (C := RX2) (T := TX2) (N := 13) (j := 9) hx hb hts inT_2 hown hK hW k1 (by decide) rfl (by decide) rfl (hts _ kw_248) rfl dX2_findRoom_11 ?_
      refine lv_icmp_ge (tgt := 48) hx hb dX2_findRoom_14 (by decide) (fun c7 => ?_) (fun c7 => ?_)
      · replace hf := hf.1 c7
        refine lv_iconst (v := 1) hx hb dX2_findRoom_48 (by decide +kernel) ?_
        exact gm_zret hx hb hr hlocks hW hS hf.1 hf.2 dX2_findRoom_49
      · replace hf := hf.2 c7
        refine lv_aload_n hx hb dX2_findRoom_17 rfl (lv_at hl 0 rfl) ?_
        obtain ⟨b8, hb8, hf⟩ := hf
        refine gm_getR (C := RX2) (T := TX2) (N := 13) (j := 10) hx hb hts inT_2 hown hK hW k1 (by decide) rfl (by decide) rfl (hts _ kw_249) rfl dX2_findRoom_18 hb8 ?_
        refine lv_iload_n hx hb dX2_findRoom_21 rfl (lv_at hl 1 rfl) ?_
        refine lv_aload_n hx hb dX2_findRoom_22 rfl (lv_at hl 0 rfl) ?_
        obtain ⟨b9, hb9, hf⟩ := hf
        refine gm_getR (C := RX2) (T := TX2) (N := 13) (j := 0) hx hb hts inT_2 hown hK hW k1 (by decide) rfl (by decide) rfl (hts _ kw_239) rfl dX2_findRoom_23 hb9 ?_
        obtain ⟨k12, hf⟩ := hf
        refine gm_ci (va_runV (As := []) (rest := [.int x5, .ref b8]) ⟨hx, hb, hml, hown, hts⟩ (m_X9_takeSegment l D cy tq _ Y _ _ _) (cwV 0 hts (good_V kw_1122 kw_910 kw_911 kw_8 kw_912) rfl rfl rfl (by decide +kernel) ⟨Nat.le_of_ble_eq_true rfl, Nat.le_of_ble_eq_true rfl⟩) (gm_preV hK hW hC hS hA k12 (by decide) (q := (RX9, TX9, 7)) rfl rfl hf) rfl rfl hl.1 rfl (lv_room (Nat.le_of_ble_eq_true rfl)) dX2_findRoom_26 ⟨Nat.le_of_ble_eq_true rfl, Nat.le_of_ble_eq_true rfl⟩) hW hS hA (fun r11 M10 H locs hW hS hf => ?_)
        obtain ⟨k13, hf⟩ := hf
        obtain ⟨h14, hf⟩ := hf
        refine gm_iast hx hb hK hW hS k13 h14 dX2_findRoom_29 (fun H locs M15 eM15 hW hS => ?_)
        replace hf := hf M15 eM15
        refine lv_aload_n hx hb dX2_findRoom_30 rfl (lv_at hl 0 rfl) ?_
        obtain ⟨b16, hb16, hf⟩ := hf
        refine gm_getR (C := RX2) (T := TX2) (N := 13) (j := 10) hx hb hts inT_2 hown hK hW k1 (by decide) rfl (by decide) rfl (hts _ kw_249) rfl dX2_findRoom_31 hb16 ?_
        refine lv_iload_n hx hb dX2_findRoom_34 rfl (lv_at hl 1 rfl) ?_
        obtain ⟨k17, hf⟩ := hf
        obtain ⟨h18, hf⟩ := hf
        refine gm_iald hx hb hK hW k17 h18 dX2_findRoom_35 ?_
        refine lv_iconst (v := -1) hx hb dX2_findRoom_36 (by decide +kernel) ?_
        refine lv_icmp_ne (tgt := 42) hx hb dX2_findRoom_37 (by decide) (fun c19 => ?_) (fun c19 => ?_)
        · replace hf := hf.1 c19
          obtain ⟨x20, ex20⟩ : ∃ y : Int32, y = x5 + 1 := ⟨_, rfl⟩
          replace hf := hf x20 ex20
          refine lv_iinc (v := x20) (lv' := [(1, .int x20), (0, .ref v0)]) hx hb dX2_findRoom_42 hl (k := 1) rfl (by rw [ex20]; rfl) (by decide) rfl (fun ls hl => ?_)
          refine lv_goto (tgt := 9) hx hb dX2_findRoom_45 (by decide) ?_
          exact ih9 _ _ _ _ _ (lv_sub hl [1, 0] rfl) hW hS hf
        · replace hf := hf.2 c19
          refine lv_iconst (v := 0) hx hb dX2_findRoom_40 (by decide +kernel) ?_
          exact gm_zret hx hb hr hlocks hW hS hf.1 hf.2 dX2_findRoom_41
  exact lp9 n9 _ _ _ _ _ (lv_sub hl [1, 0] rfl) hW hS hf

abbrev rm_X2_noteLatestKeys : Room := { frames := 6, cells := 0, slots := 0, locals := 173 }
def f_X2_noteLatestKeys_185 (Y : Ly) (x11 : Int32) (again43 : Int32 → Mm → Prop) (M38 : Mm) : Prop :=
  ∀ x39 : Int32, x39 = x11 + 1 → (again43 x39 M38)
def f_X2_noteLatestKeys_170 (Y : Ly) (v0 : Nat) (x36 : Int32) (again101 : Int32 → Int32 → Mm → Prop) (M49 : Mm) : Prop :=
  ∃ b50 : Nat, mR M49 v0 2 = some b50 ∧ (yK Y b50 = 10 ∧ (∀ x52 : Int32, x52 = mI M49 b50 6 → (∀ x53 : Int32, x53 = x36 + 1 → (again101 x52 x53 M49))))
def L_X2_noteLatestKeys_101 (Y : Ly) (v0 : Nat) (x11 : Int32) (again43 : Int32 → Mm → Prop) (r20 : Int32) (x30 : Int32) (x35 : Int32) (x36 : Int32) (M37 : Mm) (again101 : Int32 → Int32 → Mm → Prop) : Prop :=
  (r20 ≤ x36 → (f_X2_noteLatestKeys_185 Y x11 again43 M37)) ∧ (¬ (r20 ≤ x36) → (∃ b41 : Nat, mR M37 v0 2 = some b41 ∧ (∃ b42 : Nat, mR M37 v0 1 = some b42 ∧ (yK Y b41 = 10 ∧ (f_X10_read Y b41 b42 x35 x30 M37 (fun r44 M43 => ((r44 = 0 → (f_X2_noteLatestKeys_185 Y x11 again43 M43)) ∧ (¬ (r44 = 0) → (∃ b47 : Nat, mR M43 v0 2 = some b47 ∧ (yK Y b47 = 10 ∧ (((mI M43 b47 3) = (-1) → (f_X2_noteLatestKeys_170 Y v0 x36 again101 M43)) ∧ (¬ ((mI M43 b47 3) = (-1)) → (f_X2_slotOfKey Y v0 M43 (fun r56 M55 => (∃ b57 : Nat, mR M55 v0 3 = some b57 ∧ (∃ b58 : Nat, mR M55 v0 2 = some b58 ∧ (yK Y b58 = 10 ∧ (yK Y b57 = 101 ∧ (vp_in r56 (yN Y b57) ∧ (∀ M62 : Mm, M62 = sI M55 b57 (m1 (mI M55 b57) r56.toNatClampNeg (mI M55 b58 2)) → (∃ b63 : Nat, mR M62 v0 4 = some b63 ∧ (∃ b64 : Nat, mR M62 v0 2 = some b64 ∧ (yK Y b64 = 10 ∧ (yK Y b63 = 101 ∧ (vp_in r56 (yN Y b63) ∧ (∀ M68 : Mm, M68 = sI M62 b63 (m1 (mI M62 b63) r56.toNatClampNeg (mI M62 b64 3)) → (f_X2_noteLatestKeys_170 Y v0 x36 again101 M68)))))))))))))))))))))))))))
def L_X2_noteLatestKeys_43 (Y : Ly) (v0 : Nat) (v1 : Nat) (Kn : Mm → Prop) (x11 : Int32) (M12 : Mm) (again43 : Int32 → Mm → Prop) : Prop :=
  yK Y v1 = 8 ∧ (((mI M12 v1 7) ≤ x11 → (Kn M12)) ∧ (¬ ((mI M12 v1 7) ≤ x11) → (∃ b15 : Nat, mR M12 v0 1 = some b15 ∧ (∃ b16 : Nat, mR M12 v1 8 = some b16 ∧ (yK Y b16 = 101 ∧ (vp_in x11 (yN Y b16) ∧ (f_X0_countOf Y b15 (mI M12 b16 x11.toNatClampNeg) M12 (fun r20 M19 => (∃ b21 : Nat, mR M19 v1 8 = some b21 ∧ (yK Y b21 = 101 ∧ (vp_in x11 (yN Y b21) ∧ (∃ b24 : Nat, mR M19 v0 1 = some b24 ∧ (∃ b25 : Nat, mR M19 v1 8 = some b25 ∧ (yK Y b25 = 101 ∧ (vp_in x11 (yN Y b25) ∧ (f_X0_sizeOf Y b24 (mI M19 b25 x11.toNatClampNeg) M19 (fun r29 M28 => (∀ x30 : Int32, x30 = (mI M19 b21 x11.toNatClampNeg) + r29 → (∃ b31 : Nat, mR M28 v1 8 = some b31 ∧ (yK Y b31 = 101 ∧ (vp_in x11 (yN Y b31) ∧ (∀ x34 : Int32, x34 = (mI M28 b31 x11.toNatClampNeg) + 61 → (∃ n, LOOP3 (L_X2_noteLatestKeys_101 Y v0 x11 again43 r20 x30) n x34 0 M28)))))))))))))))))))))))
def f_X2_noteLatestKeys (Y : Ly) (v0 : Nat) (v1 : Nat) (M : Mm) (Kn : Mm → Prop) : Prop :=
  yK Y v0 = 2 ∧ (∃ b2 : Nat, mR M v0 0 = some b2 ∧ (yK Y b2 = 9 ∧ (f_X9_countRecords Y b2 v1 M (fun r4 M3 => (∃ b6 : Nat, mR M3 v0 3 = some b6 ∧ (yK Y b6 = 101 ∧ (∀ M8 : Mm, M8 = sI M3 v0 (m1 (mI M3 v0) 5 ((if ((nI (yN Y b6)).toInt64) < ((2 * r4) + 1) then ((nI (yN Y b6)).toInt64) else ((2 * r4) + 1)).toInt32)) → (∃ b9 : Nat, mR M8 v0 3 = some b9 ∧ (f_J7_fill_fda19 Y b9 0 (mI M8 v0 5) (-1) M8 (fun M10 => (∃ n, LOOP2 (L_X2_noteLatestKeys_43 Y v0 v1 Kn) n 0 M10)))))))))))
set_option maxHeartbeats 4000000 in
set_option maxRecDepth 100000 in
theorem m_X2_noteLatestKeys (l : Launch) (D : va_G) (cy : Cy) (tq sz : Nat) (Y : Ly) (v0 : Nat) (v1 : Nat) (M : Mm) (Kn : Mm → Prop) : Met l yX2_noteLatestKeys (Cond.code yX2_noteLatestKeys cX2_noteLatestKeys 8 none :: TT) rm_X2_noteLatestKeys (PcG D cy tq [.ref v0, .ref v1] sz Y M (f_X2_noteLatestKeys Y v0 v1 M Kn)) (va_Qv Kn (BG D cy (Am Y sz) Y) (Am Y sz)) 0 0 (Am Y sz) := by
  refine Met.ofW (cc := cX2_noteLatestKeys) (maxL := 8) (ret := none) (by decide) rfl ?_
  intro p e s m args below meth c s₁ B hml hv
  obtain ⟨hargs, hsz, hW, hK, hC, hf⟩ := hv
  subst hsz
  have hx := B.exec
  have hb := B.bytes
  have hr := B.returns
  have hts : ∀ w ∈ TT, w.before args s = true := fun w h => atoms_spec (ws := Cond.code yX2_noteLatestKeys cX2_noteLatestKeys 8 none :: TT) B.pre w (List.mem_cons_of_mem _ h)
  have hown : s.vm.findClass RX2 = some m.cls := findClass_of_methodNamed B.named
  have hlocks := B.notSynchronized
  replace hW := Wd_self (sz := s.heap.size) hW
  generalize hAe : Am Y s.heap.size = A at hW hC ⊢
  have hA : ∀ q : Nat, s.heap.size ≤ q → A q := fun q h => by rw [← hAe]; exact Or.inr h
  clear hAe
  have hS : va_S A s.heap s.heap [] := va_S.rf
  obtain ⟨ls, hE, hl⟩ := gm_entry m [.ref v0, .ref v1] (n := 8) hargs (Nat.le_of_ble_eq_true rfl)
  rw [hE]
  have hl : lv_has ls 8 [(0, .ref v0), (1, .ref v1)] := hl
  show W p l e rm_X2_noteLatestKeys s m args below meth c s.heap [] 0 0 (MQ below (va_Qv Kn (BG D cy A Y) A) args s 0 0 A) (F0 m 0 ls [])
  unfold f_X2_noteLatestKeys at hf
  refine lv_aload_n hx hb dX2_noteLatestKeys_0 rfl (lv_at hl 0 rfl) ?_
  refine lv_ldc2 (v := 2) hx hb hown (hts _ kw_1076) dX2_noteLatestKeys_1 ?_
  refine lv_aload_n hx hb dX2_noteLatestKeys_4 rfl (lv_at hl 0 rfl) ?_
  obtain ⟨k1, hf⟩ := hf
  obtain ⟨b2, hb2, hf⟩ := hf
  refine gm_getR (C := RX2) (T := TX2) (N := 13) (j := 0) hx hb hts inT_2 hown hK hW k1 (by decide) rfl (by decide) rfl (hts _ kw_239) rfl dX2_noteLatestKeys_5 hb2 ?_
  refine lv_aload_n hx hb dX2_noteLatestKeys_8 rfl (lv_at hl 1 rfl) ?_
  obtain ⟨k5, hf⟩ := hf
  refine gm_cl (va_runV (As := [.ref v1]) (rest := [.long 2, .ref v0]) ⟨hx, hb, hml, hown, hts⟩ (m_X9_countRecords l D cy tq _ Y _ _ _ _) (cwV 1 hts (good_V kw_1077 kw_953 kw_954 kw_8 kw_955) rfl rfl rfl (by decide +kernel) ⟨Nat.le_of_ble_eq_true rfl, Nat.le_of_ble_eq_true rfl⟩) (gm_preV hK hW hC hS hA k5 (by decide) (q := (RX9, TX9, 7)) rfl rfl hf) rfl rfl hl.1 rfl (lv_room (Nat.le_of_ble_eq_true rfl)) dX2_noteLatestKeys_9 ⟨Nat.le_of_ble_eq_true rfl, Nat.le_of_ble_eq_true rfl⟩) hW hS hA (fun r4 M3 H locs hW hS hf => ?_)
  refine lv_lmul hx hb dX2_noteLatestKeys_12 ?_
  refine lv_lconst (v := 1) hx hb dX2_noteLatestKeys_13 (by decide) ?_
  refine lv_ladd hx hb dX2_noteLatestKeys_14 ?_
  refine lv_aload_n hx hb dX2_noteLatestKeys_15 rfl (lv_at hl 0 rfl) ?_
  obtain ⟨b6, hb6, hf⟩ := hf
  refine gm_getR (C := RX2) (T := TX2) (N := 13) (j := 3) hx hb hts inT_2 hown hK hW k1 (by decide) rfl (by decide) rfl (hts _ kw_242) rfl dX2_noteLatestKeys_16 hb6 ?_
  obtain ⟨k7, hf⟩ := hf
  refine gm_alen hx hb hK hW (by rw [k7]; decide) dX2_noteLatestKeys_19 ?_
  refine lv_i2l hx hb dX2_noteLatestKeys_20 rfl ?_
  refine va_mmin_long hx hb (by rw [hml]; exact hl.1.symm) hown (hts _ kw_1078) (hts _ kw_1079) (hts _ kw_6) (hts _ kmath_minJ) (Nat.le_of_ble_eq_true rfl) (Nat.le_of_ble_eq_true rfl) (Nat.zero_le _) (Nat.zero_le _) dX2_noteLatestKeys_21 ?_
  refine lv_l2i hx hb dX2_noteLatestKeys_24 rfl ?_
  refine gm_putI (C := RX2) (T := TX2) (N := 13) (j := 5) hx hb hts inT_2 tyX2 tyX2_ok nmX2 hown hK hW hS k1 (by decide) rfl (by decide) rfl (hts _ kw_244) rfl rfl rfl rfl dX2_noteLatestKeys_25 (fun H locs M8 eM8 hW hS => ?_)
  replace hf := hf M8 eM8
  refine lv_aload_n hx hb dX2_noteLatestKeys_28 rfl (lv_at hl 0 rfl) ?_
  obtain ⟨b9, hb9, hf⟩ := hf
  refine gm_getR (C := RX2) (T := TX2) (N := 13) (j := 3) hx hb hts inT_2 hown hK hW k1 (by decide) rfl (by decide) rfl (hts _ kw_242) rfl dX2_noteLatestKeys_29 hb9 ?_
  refine lv_iconst (v := 0) hx hb dX2_noteLatestKeys_32 (by decide +kernel) ?_
  refine lv_aload_n hx hb dX2_noteLatestKeys_33 rfl (lv_at hl 0 rfl) ?_
  refine gm_getI (C := RX2) (T := TX2) (N := 13) (j := 5) hx hb hts inT_2 hown hK hW k1 (by decide) rfl (by decide) rfl (hts _ kw_244) rfl dX2_noteLatestKeys_34 ?_
  refine lv_iconst (v := -1) hx hb dX2_noteLatestKeys_37 (by decide +kernel) ?_
  refine gm_cv (va_runS (As := [.ref b9, .int 0, .int (mI M8 v0 5), .int (-1)]) (rest := []) ⟨hx, hb, hml, hown, hts⟩ (m_J7_fill_fda19 l D cy tq _ Y _ _ _ _ _ _) (va_cwS 4 hts (good_S kw_1081 kw_1082 kw_21 kw_1083) rfl rfl rfl (by decide +kernel) ⟨Nat.le_of_ble_eq_true rfl, Nat.le_of_ble_eq_true rfl⟩) (gm_preS hK hW hC hS hA hf) rfl rfl hl.1 rfl (lv_room (Nat.le_of_ble_eq_true rfl)) dX2_noteLatestKeys_38 ⟨Nat.le_of_ble_eq_true rfl, Nat.le_of_ble_eq_true rfl⟩) hW hS hA (fun M10 H locs hW hS hf => ?_)
  refine lv_iconst (v := 0) hx hb dX2_noteLatestKeys_41 (by decide +kernel) ?_
  refine lv_istore_n (lv' := [(2, .int 0), (0, .ref v0), (1, .ref v1)]) hx hb dX2_noteLatestKeys_42 rfl hl (by decide) rfl (fun ls hl => ?_)
  obtain ⟨n43, hf⟩ := hf
  have lp43 : ∀ (n43 : Nat) (x11 : Int32) (M12 : Mm) (H : Heap) (locs : List Loc) (ls : Array Slot), lv_has ls 8 [(0, .ref v0), (1, .ref v1), (2, .int x11)] → Wd D cy A Y M12 H → va_S A s.heap H locs → LOOP2 (L_X2_noteLatestKeys_43 Y v0 v1 Kn) n43 x11 M12 → W p l e rm_X2_noteLatestKeys s m args below meth c H locs 0 0 (MQ below (va_Qv Kn (BG D cy A Y) A) args s 0 0 A) (F0 m 43 ls []) := by
    intro n43
    induction n43 with
    | zero => intro x11 M12 H locs ls hl hW hS hf; exact hf.elim
    | succ n43 ih43 =>
      intro x11 M12 H locs ls hl hW hS hf
      replace hf : L_X2_noteLatestKeys_43 Y v0 v1 Kn x11 M12 (LOOP2 (L_X2_noteLatestKeys_43 Y v0 v1 Kn) n43) := hf
      unfold L_X2_noteLatestKeys_43 at hf
      refine lv_iload_n hx hb dX2_noteLatestKeys_43 rfl (lv_at hl 2 rfl) ?_
      refine lv_aload_n hx hb dX2_noteLatestKeys_44 rfl (lv_at hl 1 rfl) ?_
      obtain ⟨k13, hf⟩ := hf
      refine gm_getI (C := RX8) (T := TX8) (N := 9) (j := 7) hx hb hts inT_8 hown hK hW k13 (by decide) rfl (by decide) rfl (hts _ kw_190) rfl dX2_noteLatestKeys_45 ?_
      refine lv_icmp_ge (tgt := 191) hx hb dX2_noteLatestKeys_48 (by decide) (fun c14 => ?_) (fun c14 => ?_)
      · replace hf := hf.1 c14
        exact gm_vret hx hb hr hlocks hW hS hf dX2_noteLatestKeys_191
      · replace hf := hf.2 c14
        refine lv_aload_n hx hb dX2_noteLatestKeys_51 rfl (lv_at hl 0 rfl) ?_
        obtain ⟨b15, hb15, hf⟩ := hf
        refine gm_getR (C := RX2) (T := TX2) (N := 13) (j := 1) hx hb hts inT_2 hown hK hW k1 (by decide) rfl (by decide) rfl (hts _ kw_240) rfl dX2_noteLatestKeys_52 hb15 ?_
        refine lv_aload_n hx hb dX2_noteLatestKeys_55 rfl (lv_at hl 1 rfl) ?_
        obtain ⟨b16, hb16, hf⟩ := hf
        refine gm_getR (C := RX8) (T := TX8) (N := 9) (j := 8) hx hb hts inT_8 hown hK hW k13 (by decide) rfl (by decide) rfl (hts _ kw_196) rfl dX2_noteLatestKeys_56 hb16 ?_
        refine lv_iload_n hx hb dX2_noteLatestKeys_59 rfl (lv_at hl 2 rfl) ?_
        obtain ⟨k17, hf⟩ := hf
        obtain ⟨h18, hf⟩ := hf
        refine gm_iald hx hb hK hW k17 h18 dX2_noteLatestKeys_60 ?_
        refine gm_ci (va_runS (As := [.ref b15, .int (mI M12 b16 x11.toNatClampNeg)]) (rest := []) ⟨hx, hb, hml, hown, hts⟩ (m_X0_countOf l D cy tq _ Y _ _ _ _) (va_cwS 2 hts (good_S kw_1084 kw_782 kw_20 kw_783) rfl rfl rfl (by decide +kernel) ⟨Nat.le_of_ble_eq_true rfl, Nat.le_of_ble_eq_true rfl⟩) (gm_preS hK hW hC hS hA hf) rfl rfl hl.1 rfl (lv_room (Nat.le_of_ble_eq_true rfl)) dX2_noteLatestKeys_61 ⟨Nat.le_of_ble_eq_true rfl, Nat.le_of_ble_eq_true rfl⟩) hW hS hA (fun r20 M19 H locs hW hS hf => ?_)
        refine lv_istore_n (lv' := [(3, .int r20), (0, .ref v0), (1, .ref v1), (2, .int x11)]) hx hb dX2_noteLatestKeys_64 rfl hl (by decide) rfl (fun ls hl => ?_)
        refine lv_aload_n hx hb dX2_noteLatestKeys_65 rfl (lv_at hl 2 rfl) ?_
        obtain ⟨b21, hb21, hf⟩ := hf
        refine gm_getR (C := RX8) (T := TX8) (N := 9) (j := 8) hx hb hts inT_8 hown hK hW k13 (by decide) rfl (by decide) rfl (hts _ kw_196) rfl dX2_noteLatestKeys_66 hb21 ?_
        refine lv_iload_n hx hb dX2_noteLatestKeys_69 rfl (lv_at hl 3 rfl) ?_
        obtain ⟨k22, hf⟩ := hf
        obtain ⟨h23, hf⟩ := hf
        refine gm_iald hx hb hK hW k22 h23 dX2_noteLatestKeys_70 ?_
        refine lv_aload_n hx hb dX2_noteLatestKeys_71 rfl (lv_at hl 1 rfl) ?_
        obtain ⟨b24, hb24, hf⟩ := hf
        refine gm_getR (C := RX2) (T := TX2) (N := 13) (j := 1) hx hb hts inT_2 hown hK hW k1 (by decide) rfl (by decide) rfl (hts _ kw_240) rfl dX2_noteLatestKeys_72 hb24 ?_
        refine lv_aload_n hx hb dX2_noteLatestKeys_75 rfl (lv_at hl 2 rfl) ?_
        obtain ⟨b25, hb25, hf⟩ := hf
        refine gm_getR (C := RX8) (T := TX8) (N := 9) (j := 8) hx hb hts inT_8 hown hK hW k13 (by decide) rfl (by decide) rfl (hts _ kw_196) rfl dX2_noteLatestKeys_76 hb25 ?_
        refine lv_iload_n hx hb dX2_noteLatestKeys_79 rfl (lv_at hl 3 rfl) ?_
        obtain ⟨k26, hf⟩ := hf
        obtain ⟨h27, hf⟩ := hf
        refine gm_iald hx hb hK hW k26 h27 dX2_noteLatestKeys_80 ?_
        refine gm_ci (va_runS (As := [.ref b24, .int (mI M19 b25 x11.toNatClampNeg)]) (rest := [.int (mI M19 b21 x11.toNatClampNeg)]) ⟨hx, hb, hml, hown, hts⟩ (m_X0_sizeOf l D cy tq _ Y _ _ _ _) (va_cwS 2 hts (good_S kw_1085 kw_355 kw_20 kw_356) rfl rfl rfl (by decide +kernel) ⟨Nat.le_of_ble_eq_true rfl, Nat.le_of_ble_eq_true rfl⟩) (gm_preS hK hW hC hS hA hf) rfl rfl hl.1 rfl (lv_room (Nat.le_of_ble_eq_true rfl)) dX2_noteLatestKeys_81 ⟨Nat.le_of_ble_eq_true rfl, Nat.le_of_ble_eq_true rfl⟩) hW hS hA (fun r29 M28 H locs hW hS hf => ?_)
        refine lv_iadd hx hb dX2_noteLatestKeys_84 ?_
        refine lv_topi (fun x30 ex30 => ?_)
        replace hf := hf x30 ex30
        refine lv_istore (lv' := [(4, .int x30), (3, .int r20), (0, .ref v0), (1, .ref v1), (2, .int x11)]) hx hb dX2_noteLatestKeys_85 hl (by decide) rfl (fun ls hl => ?_)
        refine lv_aload_n hx hb dX2_noteLatestKeys_87 rfl (lv_at hl 3 rfl) ?_
        obtain ⟨b31, hb31, hf⟩ := hf
        refine gm_getR (C := RX8) (T := TX8) (N := 9) (j := 8) hx hb hts inT_8 hown hK hW k13 (by decide) rfl (by decide) rfl (hts _ kw_196) rfl dX2_noteLatestKeys_88 hb31 ?_
        refine lv_iload_n hx hb dX2_noteLatestKeys_91 rfl (lv_at hl 4 rfl) ?_
        obtain ⟨k32, hf⟩ := hf
        obtain ⟨h33, hf⟩ := hf
        refine gm_iald hx hb hK hW k32 h33 dX2_noteLatestKeys_92 ?_
        refine lv_bipush (v := 61) hx hb dX2_noteLatestKeys_93 (by decide +kernel) ?_
        refine lv_iadd hx hb dX2_noteLatestKeys_95 ?_
        refine lv_topi (fun x34 ex34 => ?_)
        replace hf := hf x34 ex34
        refine lv_istore (lv' := [(5, .int x34), (4, .int x30), (3, .int r20), (0, .ref v0), (1, .ref v1), (2, .int x11)]) hx hb dX2_noteLatestKeys_96 hl (by decide) rfl (fun ls hl => ?_)
        refine lv_iconst (v := 0) hx hb dX2_noteLatestKeys_98 (by decide +kernel) ?_
        refine lv_istore (lv' := [(6, .int 0), (5, .int x34), (4, .int x30), (3, .int r20), (0, .ref v0), (1, .ref v1), (2, .int x11)]) hx hb dX2_noteLatestKeys_99 hl (by decide) rfl (fun ls hl => ?_)
        obtain ⟨n101, hf⟩ := hf
        have lp101 : ∀ (n101 : Nat) (x35 : Int32) (x36 : Int32) (M37 : Mm) (H : Heap) (locs : List Loc) (ls : Array Slot), lv_has ls 8 [(0, .ref v0), (1, .ref v1), (2, .int x11), (3, .int r20), (4, .int x30), (5, .int x35), (6, .int x36)] → Wd D cy A Y M37 H → va_S A s.heap H locs → LOOP3 (L_X2_noteLatestKeys_101 Y v0 x11 (LOOP2 (L_X2_noteLatestKeys_43 Y v0 v1 Kn) n43) r20 x30) n101 x35 x36 M37 → W p l e rm_X2_noteLatestKeys s m args below meth c H locs 0 0 (MQ below (va_Qv Kn (BG D cy A Y) A) args s 0 0 A) (F0 m 101 ls []) := by
          intro n101
          induction n101 with
          | zero => intro x35 x36 M37 H locs ls hl hW hS hf; exact hf.elim
          | succ n101 ih101 =>
            intro x35 x36 M37 H locs ls hl hW hS hf
            replace hf : L_X2_noteLatestKeys_101 Y v0 x11 (LOOP2 (L_X2_noteLatestKeys_43 Y v0 v1 Kn) n43) r20 x30 x35 x36 M37 (LOOP3 (L_X2_noteLatestKeys_101 Y v0 x11 (LOOP2 (L_X2_noteLatestKeys_43 Y v0 v1 Kn) n43) r20 x30) n101) := hf
            unfold L_X2_noteLatestKeys_101 at hf
            refine lv_iload hx hb dX2_noteLatestKeys_101 (lv_at hl 6 rfl) ?_
            refine lv_iload_n hx hb dX2_noteLatestKeys_103 rfl (lv_at hl 3 rfl) ?_
            have j185 : ∀ (M38 : Mm) (H : Heap) (locs : List Loc) (ls : Array Slot), lv_has ls 8 [(0, .ref v0), (1, .ref v1), (2, .int x11)] → Wd D cy A Y M38 H → va_S A s.heap H locs → f_X2_noteLatestKeys_185 Y x11 (LOOP2 (L_X2_noteLatestKeys_43 Y v0 v1 Kn) n43) M38 → W p l e rm_X2_noteLatestKeys s m args below meth c H locs 0 0 (MQ below (va_Qv Kn (BG D cy A Y) A) args s 0 0 A) (F0 m 185 ls []) := by
              intro M38 H locs ls hl hW hS hf
              unfold f_X2_noteLatestKeys_185 at hf
              obtain ⟨x39, ex39⟩ : ∃ y : Int32, y = x11 + 1 := ⟨_, rfl⟩
              replace hf := hf x39 ex39
              refine lv_iinc (v := x39) (lv' := [(2, .int x39), (0, .ref v0), (1, .ref v1)]) hx hb dX2_noteLatestKeys_185 hl (k := 2) rfl (by rw [ex39]; rfl) (by decide) rfl (fun ls hl => ?_)
              refine lv_goto (tgt := 43) hx hb dX2_noteLatestKeys_188 (by decide) ?_
              exact ih43 _ _ _ _ _ (lv_sub hl [1, 2, 0] rfl) hW hS hf
            refine lv_icmp_ge (tgt := 185) hx hb dX2_noteLatestKeys_104 (by decide) (fun c40 => ?_) (fun c40 => ?_)
            · replace hf := hf.1 c40
              exact j185 _ _ _ _ (lv_sub hl [0, 1, 2] rfl) hW hS hf
            · replace hf := hf.2 c40
              refine lv_aload_n hx hb dX2_noteLatestKeys_107 rfl (lv_at hl 0 rfl) ?_
              obtain ⟨b41, hb41, hf⟩ := hf
              refine gm_getR (C := RX2) (T := TX2) (N := 13) (j := 2) hx hb hts inT_2 hown hK hW k1 (by decide) rfl (by decide) rfl (hts _ kw_241) rfl dX2_noteLatestKeys_108 hb41 ?_
              refine lv_aload_n hx hb dX2_noteLatestKeys_111 rfl (lv_at hl 0 rfl) ?_
              obtain ⟨b42, hb42, hf⟩ := hf
              refine gm_getR (C := RX2) (T := TX2) (N := 13) (j := 1) hx hb hts inT_2 hown hK hW k1 (by decide) rfl (by decide) rfl (hts _ kw_240) rfl dX2_noteLatestKeys_112 hb42 ?_
              refine lv_iload hx hb dX2_noteLatestKeys_115 (lv_at hl 5 rfl) ?_
              refine lv_iload hx hb dX2_noteLatestKeys_117 (lv_at hl 4 rfl) ?_
              obtain ⟨k45, hf⟩ := hf
              refine gm_ci (va_runV (As := [.ref b42, .int x35, .int x30]) (rest := []) ⟨hx, hb, hml, hown, hts⟩ (m_X10_read l D cy tq _ Y _ _ _ _ _ _) (cwV 3 hts (good_V kw_1086 kw_819 kw_820 kw_4 kw_821) rfl rfl rfl (by decide +kernel) ⟨Nat.le_of_ble_eq_true rfl, Nat.le_of_ble_eq_true rfl⟩) (gm_preV hK hW hC hS hA k45 (by decide) (q := (RX10, TX10, 8)) rfl rfl hf) rfl rfl hl.1 rfl (lv_room (Nat.le_of_ble_eq_true rfl)) dX2_noteLatestKeys_119 ⟨Nat.le_of_ble_eq_true rfl, Nat.le_of_ble_eq_true rfl⟩) hW hS hA (fun r44 M43 H locs hW hS hf => ?_)
              refine lv_if_eq (tgt := 185) hx hb dX2_noteLatestKeys_122 (by decide) (fun c46 => ?_) (fun c46 => ?_)
              · replace hf := hf.1 c46
                exact j185 _ _ _ _ (lv_sub hl [0, 1, 2] rfl) hW hS hf
              · replace hf := hf.2 c46
                refine lv_aload_n hx hb dX2_noteLatestKeys_125 rfl (lv_at hl 0 rfl) ?_
                obtain ⟨b47, hb47, hf⟩ := hf
                refine gm_getR (C := RX2) (T := TX2) (N := 13) (j := 2) hx hb hts inT_2 hown hK hW k1 (by decide) rfl (by decide) rfl (hts _ kw_241) rfl dX2_noteLatestKeys_126 hb47 ?_
                obtain ⟨k48, hf⟩ := hf
                refine gm_getI (C := RX10) (T := TX10) (N := 8) (j := 3) hx hb hts inT_10 hown hK hW k48 (by decide) rfl (by decide) rfl (hts _ kw_79) rfl dX2_noteLatestKeys_129 ?_
                refine lv_iconst (v := -1) hx hb dX2_noteLatestKeys_132 (by decide +kernel) ?_
                have j170 : ∀ (M49 : Mm) (H : Heap) (locs : List Loc) (ls : Array Slot), lv_has ls 8 [(0, .ref v0), (1, .ref v1), (2, .int x11), (3, .int r20), (4, .int x30), (6, .int x36)] → Wd D cy A Y M49 H → va_S A s.heap H locs → f_X2_noteLatestKeys_170 Y v0 x36 (LOOP3 (L_X2_noteLatestKeys_101 Y v0 x11 (LOOP2 (L_X2_noteLatestKeys_43 Y v0 v1 Kn) n43) r20 x30) n101) M49 → W p l e rm_X2_noteLatestKeys s m args below meth c H locs 0 0 (MQ below (va_Qv Kn (BG D cy A Y) A) args s 0 0 A) (F0 m 170 ls []) := by
                  intro M49 H locs ls hl hW hS hf
                  unfold f_X2_noteLatestKeys_170 at hf
                  refine lv_aload_n hx hb dX2_noteLatestKeys_170 rfl (lv_at hl 0 rfl) ?_
                  obtain ⟨b50, hb50, hf⟩ := hf
                  refine gm_getR (C := RX2) (T := TX2) (N := 13) (j := 2) hx hb hts inT_2 hown hK hW k1 (by decide) rfl (by decide) rfl (hts _ kw_241) rfl dX2_noteLatestKeys_171 hb50 ?_
                  obtain ⟨k51, hf⟩ := hf
                  refine gm_getI (C := RX10) (T := TX10) (N := 8) (j := 6) hx hb hts inT_10 hown hK hW k51 (by decide) rfl (by decide) rfl (hts _ kw_87) rfl dX2_noteLatestKeys_174 ?_
                  refine lv_topi (fun x52 ex52 => ?_)
                  replace hf := hf x52 ex52
                  refine lv_istore (lv' := [(5, .int x52), (0, .ref v0), (1, .ref v1), (2, .int x11), (3, .int r20), (4, .int x30), (6, .int x36)]) hx hb dX2_noteLatestKeys_177 hl (by decide) rfl (fun ls hl => ?_)
                  obtain ⟨x53, ex53⟩ : ∃ y : Int32, y = x36 + 1 := ⟨_, rfl⟩
                  replace hf := hf x53 ex53
                  refine lv_iinc (v := x53) (lv' := [(6, .int x53), (5, .int x52), (0, .ref v0), (1, .ref v1), (2, .int x11), (3, .int r20), (4, .int x30)]) hx hb dX2_noteLatestKeys_179 hl (k := 6) rfl (by rw [ex53]; rfl) (by decide) rfl (fun ls hl => ?_)
                  refine lv_goto (tgt := 101) hx hb dX2_noteLatestKeys_182 (by decide) ?_
                  exact ih101 _ _ _ _ _ _ (lv_sub hl [2, 3, 4, 5, 6, 1, 0] rfl) hW hS hf
                refine lv_icmp_eq (tgt := 170) hx hb dX2_noteLatestKeys_133 (by decide) (fun c54 => ?_) (fun c54 => ?_)
                · replace hf := hf.1 c54
                  exact j170 _ _ _ _ (lv_sub hl [0, 1, 2, 3, 4, 6] rfl) hW hS hf
                · replace hf := hf.2 c54
                  refine lv_aload_n hx hb dX2_noteLatestKeys_136 rfl (lv_at hl 0 rfl) ?_
                  refine gm_ci (va_runV (As := []) (rest := []) ⟨hx, hb, hml, hown, hts⟩ (m_X2_slotOfKey l D cy tq _ Y _ _ _) (cwV 0 hts (good_V kw_1087 kw_1088 kw_1807 kw_10 kw_1089) rfl rfl rfl (by decide +kernel) ⟨Nat.le_of_ble_eq_true rfl, Nat.le_of_ble_eq_true rfl⟩) (gm_preV hK hW hC hS hA k1 (by decide) (q := (RX2, TX2, 13)) rfl rfl hf) rfl rfl hl.1 rfl (lv_room (Nat.le_of_ble_eq_true rfl)) dX2_noteLatestKeys_137 ⟨Nat.le_of_ble_eq_true rfl, Nat.le_of_ble_eq_true rfl⟩) hW hS hA (fun r56 M55 H locs hW hS hf => ?_)
                  refine lv_istore (lv' := [(7, .int r56), (0, .ref v0), (1, .ref v1), (2, .int x11), (3, .int r20), (4, .int x30), (5, .int x35), (6, .int x36)]) hx hb dX2_noteLatestKeys_140 hl (by decide) rfl (fun ls hl => ?_)
                  refine lv_aload_n hx hb dX2_noteLatestKeys_142 rfl (lv_at hl 1 rfl) ?_
                  obtain ⟨b57, hb57, hf⟩ := hf
                  refine gm_getR (C := RX2) (T := TX2) (N := 13) (j := 3) hx hb hts inT_2 hown hK hW k1 (by decide) rfl (by decide) rfl (hts _ kw_242) rfl dX2_noteLatestKeys_143 hb57 ?_
                  refine lv_iload hx hb dX2_noteLatestKeys_146 (lv_at hl 0 rfl) ?_
                  refine lv_aload_n hx hb dX2_noteLatestKeys_148 rfl (lv_at hl 1 rfl) ?_
                  obtain ⟨b58, hb58, hf⟩ := hf
                  refine gm_getR (C := RX2) (T := TX2) (N := 13) (j := 2) hx hb hts inT_2 hown hK hW k1 (by decide) rfl (by decide) rfl (hts _ kw_241) rfl dX2_noteLatestKeys_149 hb58 ?_
                  obtain ⟨k59, hf⟩ := hf
                  refine gm_getI (C := RX10) (T := TX10) (N := 8) (j := 2) hx hb hts inT_10 hown hK hW k59 (by decide) rfl (by decide) rfl (hts _ kw_76) rfl dX2_noteLatestKeys_152 ?_
                  obtain ⟨k60, hf⟩ := hf
                  obtain ⟨h61, hf⟩ := hf
                  refine gm_iast hx hb hK hW hS k60 h61 dX2_noteLatestKeys_155 (fun H locs M62 eM62 hW hS => ?_)
                  replace hf := hf M62 eM62
                  refine lv_aload_n hx hb dX2_noteLatestKeys_156 rfl (lv_at hl 1 rfl) ?_
                  obtain ⟨b63, hb63, hf⟩ := hf
                  refine gm_getR (C := RX2) (T := TX2) (N := 13) (j := 4) hx hb hts inT_2 hown hK hW k1 (by decide) rfl (by decide) rfl (hts _ kw_243) rfl dX2_noteLatestKeys_157 hb63 ?_
                  refine lv_iload hx hb dX2_noteLatestKeys_160 (lv_at hl 0 rfl) ?_
                  refine lv_aload_n hx hb dX2_noteLatestKeys_162 rfl (lv_at hl 1 rfl) ?_
                  obtain ⟨b64, hb64, hf⟩ := hf
                  refine gm_getR (C := RX2) (T := TX2) (N := 13) (j := 2) hx hb hts inT_2 hown hK hW k1 (by decide) rfl (by decide) rfl (hts _ kw_241) rfl dX2_noteLatestKeys_163 hb64 ?_
                  obtain ⟨k65, hf⟩ := hf
                  refine gm_getI (C := RX10) (T := TX10) (N := 8) (j := 3) hx hb hts inT_10 hown hK hW k65 (by decide) rfl (by decide) rfl (hts _ kw_79) rfl dX2_noteLatestKeys_166 ?_
                  obtain ⟨k66, hf⟩ := hf
                  obtain ⟨h67, hf⟩ := hf
                  refine gm_iast hx hb hK hW hS k66 h67 dX2_noteLatestKeys_169 (fun H locs M68 eM68 hW hS => ?_)
                  replace hf := hf M68 eM68
                  exact j170 _ _ _ _ (lv_sub hl [1, 2, 3, 4, 5, 7] rfl) hW hS hf
        exact lp101 n101 _ _ _ _ _ _ (lv_sub hl [4, 5, 6, 3, 2, 1, 0] rfl) hW hS hf
  exact lp43 n43 _ _ _ _ _ (lv_sub hl [1, 2, 0] rfl) hW hS hf

abbrev rm_X2_keepStaged : Room := { frames := 2, cells := 0, slots := 0, locals := 80 }
def f_X2_keepStaged_64 (Y : Ly) (v0 : Nat) (v1 : Int32) (Kn : Mm → Prop) (M2 : Mm) : Prop :=
  ∃ b3 : Nat, mR M2 v0 11 = some b3 ∧ (yK Y b3 = 101 ∧ (vp_in ((mI M2 v0 9) - 1) (yN Y b3) ∧ (vp_in ((mI M2 v0 9) - 1) (yN Y b3) ∧ (∀ M7 : Mm, M7 = sI M2 b3 (m1 (mI M2 b3) ((mI M2 v0 9) - 1).toNatClampNeg ((mI M2 b3 ((mI M2 v0 9) - 1).toNatClampNeg) + v1)) → (∃ b8 : Nat, mR M7 v0 12 = some b8 ∧ (yK Y b8 = 101 ∧ (vp_in ((mI M7 v0 9) - 1) (yN Y b8) ∧ (vp_in ((mI M7 v0 9) - 1) (yN Y b8) ∧ (∀ M12 : Mm, M12 = sI M7 b8 (m1 (mI M7 b8) ((mI M7 v0 9) - 1).toNatClampNeg ((mI M7 b8 ((mI M7 v0 9) - 1).toNatClampNeg) + 1)) → (∀ M13 : Mm, M13 = sI M12 v0 (m1 (mI M12 v0) 7 ((mI M12 v0 7) + v1)) → (Kn M13)))))))))))
def f_X2_keepStaged_34 (Y : Ly) (v0 : Nat) (v1 : Int32) (M : Mm) (Kn : Mm → Prop) : Prop :=
  ∃ b14 : Nat, mR M v0 11 = some b14 ∧ (yK Y b14 = 101 ∧ (vp_in (mI M v0 9) (yN Y b14) ∧ (∀ M17 : Mm, M17 = sI M b14 (m1 (mI M b14) (mI M v0 9).toNatClampNeg 0) → (∃ b18 : Nat, mR M17 v0 12 = some b18 ∧ (yK Y b18 = 101 ∧ (vp_in (mI M17 v0 9) (yN Y b18) ∧ (∀ M21 : Mm, M21 = sI M17 b18 (m1 (mI M17 b18) (mI M17 v0 9).toNatClampNeg 0) → (∀ M22 : Mm, M22 = sI M21 v0 (m1 (mI M21 v0) 9 ((mI M21 v0 9) + 1)) → (f_X2_keepStaged_64 Y v0 v1 Kn M22)))))))))
def f_X2_keepStaged (Y : Ly) (v0 : Nat) (v1 : Int32) (M : Mm) (Kn : Mm → Prop) : Prop :=
  yK Y v0 = 2 ∧ (((mI M v0 9) = 0 → (f_X2_keepStaged_34 Y v0 v1 M Kn)) ∧ (¬ ((mI M v0 9) = 0) → (∃ b24 : Nat, mR M v0 11 = some b24 ∧ (yK Y b24 = 101 ∧ (vp_in ((mI M v0 9) - 1) (yN Y b24) ∧ (∃ b27 : Nat, mR M v0 0 = some b27 ∧ (yK Y b27 = 9 ∧ ((((mI M b24 ((mI M v0 9) - 1).toNatClampNeg) + v1) ≤ ((mI M b27 2) * 1024) → (f_X2_keepStaged_64 Y v0 v1 Kn M)) ∧ (¬ (((mI M b24 ((mI M v0 9) - 1).toNatClampNeg) + v1) ≤ ((mI M b27 2) * 1024)) → (f_X2_keepStaged_34 Y v0 v1 M Kn))))))))))
set_option maxHeartbeats 4000000 in
set_option maxRecDepth 100000 in
theorem m_X2_keepStaged (l : Launch) (D : va_G) (cy : Cy) (tq sz : Nat) (Y : Ly) (v0 : Nat) (v1 : Int32) (M : Mm) (Kn : Mm → Prop) : Met l yX2_keepStaged (Cond.code yX2_keepStaged cX2_keepStaged 2 none :: TT) rm_X2_keepStaged (PcG D cy tq [.ref v0, .int v1] sz Y M (f_X2_keepStaged Y v0 v1 M Kn)) (va_Qv Kn (BG D cy (Am Y sz) Y) (Am Y sz)) 0 0 (Am Y sz) := by
  refine Met.ofW (cc := cX2_keepStaged) (maxL := 2) (ret := none) (by decide) rfl ?_
  intro p e s m args below meth c s₁ B hml hv
  obtain ⟨hargs, hsz, hW, hK, hC, hf⟩ := hv
  subst hsz
  have hx := B.exec
  have hb := B.bytes
  have hr := B.returns
  have hts : ∀ w ∈ TT, w.before args s = true := fun w h => atoms_spec (ws := Cond.code yX2_keepStaged cX2_keepStaged 2 none :: TT) B.pre w (List.mem_cons_of_mem _ h)
  have hown : s.vm.findClass RX2 = some m.cls := findClass_of_methodNamed B.named
  have hlocks := B.notSynchronized
  replace hW := Wd_self (sz := s.heap.size) hW
  generalize hAe : Am Y s.heap.size = A at hW hC ⊢
  have hA : ∀ q : Nat, s.heap.size ≤ q → A q := fun q h => by rw [← hAe]; exact Or.inr h
  clear hAe
  have hS : va_S A s.heap s.heap [] := va_S.rf
  obtain ⟨ls, hE, hl⟩ := gm_entry m [.ref v0, .int v1] (n := 2) hargs (Nat.le_of_ble_eq_true rfl)
  rw [hE]
  have hl : lv_has ls 2 [(0, .ref v0), (1, .int v1)] := hl
  show W p l e rm_X2_keepStaged s m args below meth c s.heap [] 0 0 (MQ below (va_Qv Kn (BG D cy A Y) A) args s 0 0 A) (F0 m 0 ls [])
  unfold f_X2_keepStaged at hf
  refine lv_aload_n hx hb dX2_keepStaged_0 rfl (lv_at hl 0 rfl) ?_
  obtain ⟨k1, hf⟩ := hf
  refine gm_getI (C := RX2) (T := TX2) (N := 13) (j := 9) hx hb hts inT_2 hown hK hW k1 (by decide) rfl (by decide) rfl (hts _ kw_248) rfl dX2_keepStaged_1 ?_
  have j64 : ∀ (M2 : Mm) (H : Heap) (locs : List Loc) (ls : Array Slot), lv_has ls 2 [(0, .ref v0), (1, .int v1)] → Wd D cy A Y M2 H → va_S A s.heap H locs → f_X2_keepStaged_64 Y v0 v1 Kn M2 → W p l e rm_X2_keepStaged s m args below meth c H locs 0 0 (MQ below (va_Qv Kn (BG D cy A Y) A) args s 0 0 A) (F0 m 64 ls []) := by
    intro M2 H locs ls hl hW hS hf
    unfold f_X2_keepStaged_64 at hf
    refine lv_aload_n hx hb dX2_keepStaged_64 rfl (lv_at hl 0 rfl) ?_
    obtain ⟨b3, hb3, hf⟩ := hf
    refine gm_getR (C := RX2) (T := TX2) (N := 13) (j := 11) hx hb hts inT_2 hown hK hW k1 (by decide) rfl (by decide) rfl (hts _ kw_250) rfl dX2_keepStaged_65 hb3 ?_
    refine lv_aload_n hx hb dX2_keepStaged_68 rfl (lv_at hl 0 rfl) ?_
    refine gm_getI (C := RX2) (T := TX2) (N := 13) (j := 9) hx hb hts inT_2 hown hK hW k1 (by decide) rfl (by decide) rfl (hts _ kw_248) rfl dX2_keepStaged_69 ?_
    refine lv_iconst (v := 1) hx hb dX2_keepStaged_72 (by decide +kernel) ?_
    refine lv_isub hx hb dX2_keepStaged_73 ?_
    refine lv_dup2_11 hx hb dX2_keepStaged_74 rfl rfl ?_
    obtain ⟨k4, hf⟩ := hf
    obtain ⟨h5, hf⟩ := hf
    refine gm_iald hx hb hK hW k4 h5 dX2_keepStaged_75 ?_
    refine lv_iload_n hx hb dX2_keepStaged_76 rfl (lv_at hl 1 rfl) ?_
    refine lv_iadd hx hb dX2_keepStaged_77 ?_
    obtain ⟨h6, hf⟩ := hf
    refine gm_iast hx hb hK hW hS k4 h6 dX2_keepStaged_78 (fun H locs M7 eM7 hW hS => ?_)
    replace hf := hf M7 eM7
    refine lv_aload_n hx hb dX2_keepStaged_79 rfl (lv_at hl 0 rfl) ?_
    obtain ⟨b8, hb8, hf⟩ := hf
    refine gm_getR (C := RX2) (T := TX2) (N := 13) (j := 12) hx hb hts inT_2 hown hK hW k1 (by decide) rfl (by decide) rfl (hts _ kw_251) rfl dX2_keepStaged_80 hb8 ?_
    refine lv_aload_n hx hb dX2_keepStaged_83 rfl (lv_at hl 0 rfl) ?_
    refine gm_getI (C := RX2) (T := TX2) (N := 13) (j := 9) hx hb hts inT_2 hown hK hW k1 (by decide) rfl (by decide) rfl (hts _ kw_248) rfl dX2_keepStaged_84 ?_
    refine lv_iconst (v := 1) hx hb dX2_keepStaged_87 (by decide +kernel) ?_
    refine lv_isub hx hb dX2_keepStaged_88 ?_
    refine lv_dup2_11 hx hb dX2_keepStaged_89 rfl rfl ?_
    obtain ⟨k9, hf⟩ := hf
    obtain ⟨h10, hf⟩ := hf
    refine gm_iald hx hb hK hW k9 h10 dX2_keepStaged_90 ?_
    refine lv_iconst (v := 1) hx hb dX2_keepStaged_91 (by decide +kernel) ?_
    refine lv_iadd hx hb dX2_keepStaged_92 ?_
    obtain ⟨h11, hf⟩ := hf
    refine gm_iast hx hb hK hW hS k9 h11 dX2_keepStaged_93 (fun H locs M12 eM12 hW hS => ?_)
    replace hf := hf M12 eM12
    refine lv_aload_n hx hb dX2_keepStaged_94 rfl (lv_at hl 0 rfl) ?_
    refine lv_dup hx hb dX2_keepStaged_95 rfl ?_
    refine gm_getI (C := RX2) (T := TX2) (N := 13) (j := 7) hx hb hts inT_2 hown hK hW k1 (by decide) rfl (by decide) rfl (hts _ kw_246) rfl dX2_keepStaged_96 ?_
    refine lv_iload_n hx hb dX2_keepStaged_99 rfl (lv_at hl 1 rfl) ?_
    refine lv_iadd hx hb dX2_keepStaged_100 ?_
    refine gm_putI (C := RX2) (T := TX2) (N := 13) (j := 7) hx hb hts inT_2 tyX2 tyX2_ok nmX2 hown hK hW hS k1 (by decide) rfl (by decide) rfl (hts _ kw_246) rfl rfl rfl rfl dX2_keepStaged_101 (fun H locs M13 eM13 hW hS => ?_)
    replace hf := hf M13 eM13
    exact gm_vret hx hb hr hlocks hW hS hf dX2_keepStaged_104
  have j34 : ∀ (H : Heap) (locs : List Loc) (ls : Array Slot), lv_has ls 2 [(0, .ref v0), (1, .int v1)] → Wd D cy A Y M H → va_S A s.heap H locs → f_X2_keepStaged_34 Y v0 v1 M Kn  → W p l e rm_X2_keepStaged s m args below meth c H locs 0 0 (MQ below (va_Qv Kn (BG D cy A Y) A) args s 0 0 A) (F0 m 34 ls []) := by
    intro  H locs ls hl hW hS hf
    unfold f_X2_keepStaged_34 at hf
    refine lv_aload_n hx hb dX2_keepStaged_34 rfl (lv_at hl 0 rfl) ?_
    obtain ⟨b14, hb14, hf⟩ := hf
    refine gm_getR (C := RX2) (T := TX2) (N := 13) (j := 11) hx hb hts inT_2 hown hK hW k1 (by decide) rfl (by decide) rfl (hts _ kw_250) rfl dX2_keepStaged_35 hb14 ?_
    refine lv_aload_n hx hb dX2_keepStaged_38 rfl (lv_at hl 0 rfl) ?_
    refine gm_getI (C := RX2) (T := TX2) (N := 13) (j := 9) hx hb hts inT_2 hown hK hW k1 (by decide) rfl (by decide) rfl (hts _ kw_248) rfl dX2_keepStaged_39 ?_
    refine lv_iconst (v := 0) hx hb dX2_keepStaged_42 (by decide +kernel) ?_
    obtain ⟨k15, hf⟩ := hf
    obtain ⟨h16, hf⟩ := hf
    refine gm_iast hx hb hK hW hS k15 h16 dX2_keepStaged_43 (fun H locs M17 eM17 hW hS => ?_)
    replace hf := hf M17 eM17
    refine lv_aload_n hx hb dX2_keepStaged_44 rfl (lv_at hl 0 rfl) ?_
    obtain ⟨b18, hb18, hf⟩ := hf
    refine gm_getR (C := RX2) (T := TX2) (N := 13) (j := 12) hx hb hts inT_2 hown hK hW k1 (by decide) rfl (by decide) rfl (hts _ kw_251) rfl dX2_keepStaged_45 hb18 ?_
    refine lv_aload_n hx hb dX2_keepStaged_48 rfl (lv_at hl 0 rfl) ?_
    refine gm_getI (C := RX2) (T := TX2) (N := 13) (j := 9) hx hb hts inT_2 hown hK hW k1 (by decide) rfl (by decide) rfl (hts _ kw_248) rfl dX2_keepStaged_49 ?_
    refine lv_iconst (v := 0) hx hb dX2_keepStaged_52 (by decide +kernel) ?_
    obtain ⟨k19, hf⟩ := hf
    obtain ⟨h20, hf⟩ := hf
    refine gm_iast hx hb hK hW hS k19 h20 dX2_keepStaged_53 (fun H locs M21 eM21 hW hS => ?_)
    replace hf := hf M21 eM21
    refine lv_aload_n hx hb dX2_keepStaged_54 rfl (lv_at hl 0 rfl) ?_
    refine lv_dup hx hb dX2_keepStaged_55 rfl ?_
    refine gm_getI (C := RX2) (T := TX2) (N := 13) (j := 9) hx hb hts inT_2 hown hK hW k1 (by decide) rfl (by decide) rfl (hts _ kw_248) rfl dX2_keepStaged_56 ?_
    refine lv_iconst (v := 1) hx hb dX2_keepStaged_59 (by decide +kernel) ?_
    refine lv_iadd hx hb dX2_keepStaged_60 ?_
    refine gm_putI (C := RX2) (T := TX2) (N := 13) (j := 9) hx hb hts inT_2 tyX2 tyX2_ok nmX2 hown hK hW hS k1 (by decide) rfl (by decide) rfl (hts _ kw_248) rfl rfl rfl rfl dX2_keepStaged_61 (fun H locs M22 eM22 hW hS => ?_)
    replace hf := hf M22 eM22
    exact j64 _ _ _ _ (lv_sub hl [0, 1] rfl) hW hS hf
  refine lv_if_eq (tgt := 34) hx hb dX2_keepStaged_4 (by decide) (fun c23 => ?_) (fun c23 => ?_)
  · replace hf := hf.1 c23
    exact j34  _ _ _ (lv_sub hl [0, 1] rfl) hW hS hf
  · replace hf := hf.2 c23
    refine lv_aload_n hx hb dX2_keepStaged_7 rfl (lv_at hl 0 rfl) ?_
    obtain ⟨b24, hb24, hf⟩ := hf
    refine gm_getR (C := RX2) (T := TX2) (N := 13) (j := 11) hx hb hts inT_2 hown hK hW k1 (by decide) rfl (by decide) rfl (hts _ kw_250) rfl dX2_keepStaged_8 hb24 ?_
    refine lv_aload_n hx hb dX2_keepStaged_11 rfl (lv_at hl 0 rfl) ?_
    refine gm_getI (C := RX2) (T := TX2) (N := 13) (j := 9) hx hb hts inT_2 hown hK hW k1 (by decide) rfl (by decide) rfl (hts _ kw_248) rfl dX2_keepStaged_12 ?_
    refine lv_iconst (v := 1) hx hb dX2_keepStaged_15 (by decide +kernel) ?_
    refine lv_isub hx hb dX2_keepStaged_16 ?_
    obtain ⟨k25, hf⟩ := hf
    obtain ⟨h26, hf⟩ := hf
    refine gm_iald hx hb hK hW k25 h26 dX2_keepStaged_17 ?_
    refine lv_iload_n hx hb dX2_keepStaged_18 rfl (lv_at hl 1 rfl) ?_
    refine lv_iadd hx hb dX2_keepStaged_19 ?_
    refine lv_aload_n hx hb dX2_keepStaged_20 rfl (lv_at hl 0 rfl) ?_
    obtain ⟨b27, hb27, hf⟩ := hf
    refine gm_getR (C := RX2) (T := TX2) (N := 13) (j := 0) hx hb hts inT_2 hown hK hW k1 (by decide) rfl (by decide) rfl (hts _ kw_239) rfl dX2_keepStaged_21 hb27 ?_
    obtain ⟨k28, hf⟩ := hf
    refine gm_getI (C := RX9) (T := TX9) (N := 7) (j := 2) hx hb hts inT_9 hown hK hW k28 (by decide) rfl (by decide) rfl (hts _ kw_220) rfl dX2_keepStaged_24 ?_
    refine lv_sipush (v := 1024) hx hb dX2_keepStaged_27 (by decide +kernel) ?_
    refine lv_imul hx hb dX2_keepStaged_30 ?_
    refine lv_icmp_le (tgt := 64) hx hb dX2_keepStaged_31 (by decide) (fun c29 => ?_) (fun c29 => ?_)
    · replace hf := hf.1 c29
      exact j64 _ _ _ _ (lv_sub hl [0, 1] rfl) hW hS hf
    · replace hf := hf.2 c29
      exact j34  _ _ _ (lv_sub hl [0, 1] rfl) hW hS hf

abbrev rm_X2_replaceClosed : Room := { frames := 5, cells := 0, slots := 0, locals := 149 }
def L_X2_replaceClosed_121 (Y : Ly) (v0 : Nat) (v1 : Nat) (Kn : Mm → Prop) (x10 : Int32) (x11 : Int32) (x19 : Int32) (M20 : Mm) (again121 : Int32 → Mm → Prop) : Prop :=
  (x10 ≤ x19 → (Kn M20)) ∧ (¬ (x10 ≤ x19) → (∃ b22 : Nat, mR M20 v0 1 = some b22 ∧ (∃ b23 : Nat, mR M20 v1 8 = some b23 ∧ (yK Y b23 = 101 ∧ (vp_in (x11 + x19) (yN Y b23) ∧ (f_X0_sizeOf Y b22 (mI M20 b23 (x11 + x19).toNatClampNeg) M20 (fun r27 M26 => (f_X8_addBatch Y v1 r27 M26 (fun r29 M28 => (∀ x30 : Int32, x30 = x19 + 1 → (again121 x30 M28)))))))))))
def L_X2_replaceClosed_64 (Y : Ly) (v0 : Nat) (v1 : Nat) (x14 : Int32) (again41 : Int32 → Int32 → Mm → Prop) (x35 : Int32) (x36 : Int32) (M37 : Mm) (again64 : Int32 → Int32 → Mm → Prop) : Prop :=
  ∃ b38 : Nat, mR M37 v0 12 = some b38 ∧ (yK Y b38 = 101 ∧ (vp_in x14 (yN Y b38) ∧ (((mI M37 b38 x14.toNatClampNeg) ≤ x36 → (∀ x42 : Int32, x42 = x14 + 1 → (again41 x35 x42 M37))) ∧ (¬ ((mI M37 b38 x14.toNatClampNeg) ≤ x36) → (∃ b43 : Nat, mR M37 v0 6 = some b43 ∧ (f_X0_sizeOf Y b43 x35 M37 (fun r45 M44 => (f_X8_addBatch Y v1 r45 M44 (fun r47 M46 => (∀ x48 : Int32, x48 = x35 + r45 → (∀ x49 : Int32, x49 = x36 + 1 → (again64 x48 x49 M46))))))))))))
def L_X2_replaceClosed_41 (Y : Ly) (v0 : Nat) (v1 : Nat) (Kn : Mm → Prop) (x6 : Int32) (x10 : Int32) (x11 : Int32) (x13 : Int32) (x14 : Int32) (M15 : Mm) (again41 : Int32 → Int32 → Mm → Prop) : Prop :=
  yK Y v0 = 2 ∧ (((mI M15 v0 9) ≤ x14 → (f_X8_addSegment Y v1 x6 M15 (fun M18 => (∃ n, LOOP2 (L_X2_replaceClosed_121 Y v0 v1 Kn x10 x11) n 0 M18)))) ∧ (¬ ((mI M15 v0 9) ≤ x14) → (∃ b31 : Nat, mR M15 v0 10 = some b31 ∧ (yK Y b31 = 101 ∧ (vp_in x14 (yN Y b31) ∧ (f_X8_addSegment Y v1 (mI M15 b31 x14.toNatClampNeg) M15 (fun M34 => (∃ n, LOOP3 (L_X2_replaceClosed_64 Y v0 v1 x14 again41) n x13 0 M34))))))))
def f_X2_replaceClosed (Y : Ly) (v0 : Nat) (v1 : Nat) (M : Mm) (Kn : Mm → Prop) : Prop :=
  yK Y v1 = 8 ∧ (∀ x2 : Int32, x2 = (mI M v1 3) - 1 → (∃ b3 : Nat, mR M v1 4 = some b3 ∧ (yK Y b3 = 101 ∧ (vp_in x2 (yN Y b3) ∧ (∀ x6 : Int32, x6 = mI M b3 x2.toNatClampNeg → (∃ b7 : Nat, mR M v1 6 = some b7 ∧ (yK Y b7 = 101 ∧ (vp_in x2 (yN Y b7) ∧ (∀ x10 : Int32, x10 = mI M b7 x2.toNatClampNeg → (∀ x11 : Int32, x11 = (mI M v1 7) - x10 → (f_X8_clear Y v1 M (fun M12 => (∃ n, LOOP3 (L_X2_replaceClosed_41 Y v0 v1 Kn x6 x10 x11) n 0 0 M12)))))))))))))
set_option maxHeartbeats 4000000 in
set_option maxRecDepth 100000 in
theorem m_X2_replaceClosed (l : Launch) (D : va_G) (cy : Cy) (tq sz : Nat) (Y : Ly) (v0 : Nat) (v1 : Nat) (M : Mm) (Kn : Mm → Prop) : Met l yX2_replaceClosed (Cond.code yX2_replaceClosed cX2_replaceClosed 10 none :: TT) rm_X2_replaceClosed (PcG D cy tq [.ref v0, .ref v1] sz Y M (f_X2_replaceClosed Y v0 v1 M Kn)) (va_Qv Kn (BG D cy (Am Y sz) Y) (Am Y sz)) 0 0 (Am Y sz) := by
  refine Met.ofW (cc := cX2_replaceClosed) (maxL := 10) (ret := none) (by decide) rfl ?_
  intro p e s m args below meth c s₁ B hml hv
  obtain ⟨hargs, hsz, hW, hK, hC, hf⟩ := hv
  subst hsz
  have hx := B.exec
  have hb := B.bytes
  have hr := B.returns
  have hts : ∀ w ∈ TT, w.before args s = true := fun w h => atoms_spec (ws := Cond.code yX2_replaceClosed cX2_replaceClosed 10 none :: TT) B.pre w (List.mem_cons_of_mem _ h)
  have hown : s.vm.findClass RX2 = some m.cls := findClass_of_methodNamed B.named
  have hlocks := B.notSynchronized
  replace hW := Wd_self (sz := s.heap.size) hW
  generalize hAe : Am Y s.heap.size = A at hW hC ⊢
  have hA : ∀ q : Nat, s.heap.size ≤ q → A q := fun q h => by rw [← hAe]; exact Or.inr h
  clear hAe
  have hS : va_S A s.heap s.heap [] := va_S.rf
  obtain ⟨ls, hE, hl⟩ := gm_entry m [.ref v0, .ref v1] (n := 10) hargs (Nat.le_of_ble_eq_true rfl)
  rw [hE]
  have hl : lv_has ls 10 [(0, .ref v0), (1, .ref v1)] := hl
  show W p l e rm_X2_replaceClosed s m args below meth c s.heap [] 0 0 (MQ below (va_Qv Kn (BG D cy A Y) A) args s 0 0 A) (F0 m 0 ls [])
  unfold f_X2_replaceClosed at hf
  refine lv_aload_n hx hb dX2_replaceClosed_0 rfl (lv_at hl 1 rfl) ?_
  obtain ⟨k1, hf⟩ := hf
  refine gm_getI (C := RX8) (T := TX8) (N := 9) (j := 3) hx hb hts inT_8 hown hK hW k1 (by decide) rfl (by decide) rfl (hts _ kw_178) rfl dX2_replaceClosed_1 ?_
  refine lv_iconst (v := 1) hx hb dX2_replaceClosed_4 (by decide +kernel) ?_
  refine lv_isub hx hb dX2_replaceClosed_5 ?_
  refine lv_topi (fun x2 ex2 => ?_)
  replace hf := hf x2 ex2
  refine lv_istore_n (lv' := [(2, .int x2), (0, .ref v0), (1, .ref v1)]) hx hb dX2_replaceClosed_6 rfl hl (by decide) rfl (fun ls hl => ?_)
  refine lv_aload_n hx hb dX2_replaceClosed_7 rfl (lv_at hl 2 rfl) ?_
  obtain ⟨b3, hb3, hf⟩ := hf
  refine gm_getR (C := RX8) (T := TX8) (N := 9) (j := 4) hx hb hts inT_8 hown hK hW k1 (by decide) rfl (by decide) rfl (hts _ kw_183) rfl dX2_replaceClosed_8 hb3 ?_
  refine lv_iload_n hx hb dX2_replaceClosed_11 rfl (lv_at hl 0 rfl) ?_
  obtain ⟨k4, hf⟩ := hf
  obtain ⟨h5, hf⟩ := hf
  refine gm_iald hx hb hK hW k4 h5 dX2_replaceClosed_12 ?_
  refine lv_topi (fun x6 ex6 => ?_)
  replace hf := hf x6 ex6
  refine lv_istore_n (lv' := [(3, .int x6), (2, .int x2), (0, .ref v0), (1, .ref v1)]) hx hb dX2_replaceClosed_13 rfl hl (by decide) rfl (fun ls hl => ?_)
  refine lv_aload_n hx hb dX2_replaceClosed_14 rfl (lv_at hl 3 rfl) ?_
  obtain ⟨b7, hb7, hf⟩ := hf
  refine gm_getR (C := RX8) (T := TX8) (N := 9) (j := 6) hx hb hts inT_8 hown hK hW k1 (by decide) rfl (by decide) rfl (hts _ kw_188) rfl dX2_replaceClosed_15 hb7 ?_
  refine lv_iload_n hx hb dX2_replaceClosed_18 rfl (lv_at hl 1 rfl) ?_
  obtain ⟨k8, hf⟩ := hf
  obtain ⟨h9, hf⟩ := hf
  refine gm_iald hx hb hK hW k8 h9 dX2_replaceClosed_19 ?_
  refine lv_topi (fun x10 ex10 => ?_)
  replace hf := hf x10 ex10
  refine lv_istore (lv' := [(4, .int x10), (3, .int x6), (2, .int x2), (0, .ref v0), (1, .ref v1)]) hx hb dX2_replaceClosed_20 hl (by decide) rfl (fun ls hl => ?_)
  refine lv_aload_n hx hb dX2_replaceClosed_22 rfl (lv_at hl 4 rfl) ?_
  refine gm_getI (C := RX8) (T := TX8) (N := 9) (j := 7) hx hb hts inT_8 hown hK hW k1 (by decide) rfl (by decide) rfl (hts _ kw_190) rfl dX2_replaceClosed_23 ?_
  refine lv_iload hx hb dX2_replaceClosed_26 (lv_at hl 0 rfl) ?_
  refine lv_isub hx hb dX2_replaceClosed_28 ?_
  refine lv_topi (fun x11 ex11 => ?_)
  replace hf := hf x11 ex11
  refine lv_istore (lv' := [(5, .int x11), (4, .int x10), (3, .int x6), (2, .int x2), (0, .ref v0), (1, .ref v1)]) hx hb dX2_replaceClosed_29 hl (by decide) rfl (fun ls hl => ?_)
  refine lv_aload_n hx hb dX2_replaceClosed_31 rfl (lv_at hl 5 rfl) ?_
  refine gm_cv (va_runV (As := []) (rest := []) ⟨hx, hb, hml, hown, hts⟩ (m_X8_clear l D cy tq _ Y _ _ _) (cwV 0 hts (good_V kw_1130 kw_342 kw_343 kw_9 kw_344) rfl rfl rfl (by decide +kernel) ⟨Nat.le_of_ble_eq_true rfl, Nat.le_of_ble_eq_true rfl⟩) (gm_preV hK hW hC hS hA k1 (by decide) (q := (RX8, TX8, 9)) rfl rfl hf) rfl rfl hl.1 rfl (lv_room (Nat.le_of_ble_eq_true rfl)) dX2_replaceClosed_32 ⟨Nat.le_of_ble_eq_true rfl, Nat.le_of_ble_eq_true rfl⟩) hW hS hA (fun M12 H locs hW hS hf => ?_)
  refine lv_iconst (v := 0) hx hb dX2_replaceClosed_35 (by decide +kernel) ?_
  refine lv_istore (lv' := [(6, .int 0), (5, .int x11), (4, .int x10), (3, .int x6), (2, .int x2), (0, .ref v0), (1, .ref v1)]) hx hb dX2_replaceClosed_36 hl (by decide) rfl (fun ls hl => ?_)
  refine lv_iconst (v := 0) hx hb dX2_replaceClosed_38 (by decide +kernel) ?_
  refine lv_istore (lv' := [(7, .int 0), (6, .int 0), (5, .int x11), (4, .int x10), (3, .int x6), (2, .int x2), (0, .ref v0), (1, .ref v1)]) hx hb dX2_replaceClosed_39 hl (by decide) rfl (fun ls hl => ?_)
  obtain ⟨n41, hf⟩ := hf
  have lp41 : ∀ (n41 : Nat) (x13 : Int32) (x14 : Int32) (M15 : Mm) (H : Heap) (locs : List Loc) (ls : Array Slot), lv_has ls 10 [(0, .ref v0), (1, .ref v1), (3, .int x6), (4, .int x10), (5, .int x11), (6, .int x13), (7, .int x14)] → Wd D cy A Y M15 H → va_S A s.heap H locs → LOOP3 (L_X2_replaceClosed_41 Y v0 v1 Kn x6 x10 x11) n41 x13 x14 M15 → W p l e rm_X2_replaceClosed s m args below meth c H locs 0 0 (MQ below (va_Qv Kn (BG D cy A Y) A) args s 0 0 A) (F0 m 41 ls []) := by
    intro n41
    induction n41 with
    | zero => intro x13 x14 M15 H locs ls hl hW hS hf; exact hf.elim
    | succ n41 ih41 =>
      intro x13 x14 M15 H locs ls hl hW hS hf
      replace hf : L_X2_replaceClosed_41 Y v0 v1 Kn x6 x10 x11 x13 x14 M15 (LOOP3 (L_X2_replaceClosed_41 Y v0 v1 Kn x6 x10 x11) n41) := hf
      unfold L_X2_replaceClosed_41 at hf
      refine lv_iload hx hb dX2_replaceClosed_41 (lv_at hl 6 rfl) ?_
      refine lv_aload_n hx hb dX2_replaceClosed_43 rfl (lv_at hl 0 rfl) ?_
      obtain ⟨k16, hf⟩ := hf
      refine gm_getI (C := RX2) (T := TX2) (N := 13) (j := 9) hx hb hts inT_2 hown hK hW k16 (by decide) rfl (by decide) rfl (hts _ kw_248) rfl dX2_replaceClosed_44 ?_
      refine lv_icmp_ge (tgt := 113) hx hb dX2_replaceClosed_47 (by decide) (fun c17 => ?_) (fun c17 => ?_)
      · replace hf := hf.1 c17
        refine lv_aload_n hx hb dX2_replaceClosed_113 rfl (lv_at hl 1 rfl) ?_
        refine lv_iload_n hx hb dX2_replaceClosed_114 rfl (lv_at hl 2 rfl) ?_
        refine gm_cv (va_runV (As := [.int x6]) (rest := []) ⟨hx, hb, hml, hown, hts⟩ (m_X8_addSegment l D cy tq _ Y _ _ _ _) (cwV 1 hts (good_V kw_1131 kw_348 kw_349 kw_9 kw_350) rfl rfl rfl (by decide +kernel) ⟨Nat.le_of_ble_eq_true rfl, Nat.le_of_ble_eq_true rfl⟩) (gm_preV hK hW hC hS hA k1 (by decide) (q := (RX8, TX8, 9)) rfl rfl hf) rfl rfl hl.1 rfl (lv_room (Nat.le_of_ble_eq_true rfl)) dX2_replaceClosed_115 ⟨Nat.le_of_ble_eq_true rfl, Nat.le_of_ble_eq_true rfl⟩) hW hS hA (fun M18 H locs hW hS hf => ?_)
        refine lv_iconst (v := 0) hx hb dX2_replaceClosed_118 (by decide +kernel) ?_
        refine lv_istore (lv' := [(7, .int 0), (0, .ref v0), (1, .ref v1), (3, .int x6), (4, .int x10), (5, .int x11), (6, .int x13)]) hx hb dX2_replaceClosed_119 hl (by decide) rfl (fun ls hl => ?_)
        obtain ⟨n121, hf⟩ := hf
        have lp121 : ∀ (n121 : Nat) (x19 : Int32) (M20 : Mm) (H : Heap) (locs : List Loc) (ls : Array Slot), lv_has ls 10 [(0, .ref v0), (1, .ref v1), (4, .int x10), (5, .int x11), (7, .int x19)] → Wd D cy A Y M20 H → va_S A s.heap H locs → LOOP2 (L_X2_replaceClosed_121 Y v0 v1 Kn x10 x11) n121 x19 M20 → W p l e rm_X2_replaceClosed s m args below meth c H locs 0 0 (MQ below (va_Qv Kn (BG D cy A Y) A) args s 0 0 A) (F0 m 121 ls []) := by
          intro n121
          induction n121 with
          | zero => intro x19 M20 H locs ls hl hW hS hf; exact hf.elim
          | succ n121 ih121 =>
            intro x19 M20 H locs ls hl hW hS hf
            replace hf : L_X2_replaceClosed_121 Y v0 v1 Kn x10 x11 x19 M20 (LOOP2 (L_X2_replaceClosed_121 Y v0 v1 Kn x10 x11) n121) := hf
            unfold L_X2_replaceClosed_121 at hf
            refine lv_iload hx hb dX2_replaceClosed_121 (lv_at hl 4 rfl) ?_
            refine lv_iload hx hb dX2_replaceClosed_123 (lv_at hl 2 rfl) ?_
            refine lv_icmp_ge (tgt := 156) hx hb dX2_replaceClosed_125 (by decide) (fun c21 => ?_) (fun c21 => ?_)
            · replace hf := hf.1 c21
              exact gm_vret hx hb hr hlocks hW hS hf dX2_replaceClosed_156
            · replace hf := hf.2 c21
              refine lv_aload_n hx hb dX2_replaceClosed_128 rfl (lv_at hl 1 rfl) ?_
              refine lv_aload_n hx hb dX2_replaceClosed_129 rfl (lv_at hl 0 rfl) ?_
              obtain ⟨b22, hb22, hf⟩ := hf
              refine gm_getR (C := RX2) (T := TX2) (N := 13) (j := 1) hx hb hts inT_2 hown hK hW k16 (by decide) rfl (by decide) rfl (hts _ kw_240) rfl dX2_replaceClosed_130 hb22 ?_
              refine lv_aload_n hx hb dX2_replaceClosed_133 rfl (lv_at hl 1 rfl) ?_
              obtain ⟨b23, hb23, hf⟩ := hf
              refine gm_getR (C := RX8) (T := TX8) (N := 9) (j := 8) hx hb hts inT_8 hown hK hW k1 (by decide) rfl (by decide) rfl (hts _ kw_196) rfl dX2_replaceClosed_134 hb23 ?_
              refine lv_iload hx hb dX2_replaceClosed_137 (lv_at hl 3 rfl) ?_
              refine lv_iload hx hb dX2_replaceClosed_139 (lv_at hl 4 rfl) ?_
              refine lv_iadd hx hb dX2_replaceClosed_141 ?_
              obtain ⟨k24, hf⟩ := hf
              obtain ⟨h25, hf⟩ := hf
              refine gm_iald hx hb hK hW k24 h25 dX2_replaceClosed_142 ?_
              refine gm_ci (va_runS (As := [.ref b22, .int (mI M20 b23 (x11 + x19).toNatClampNeg)]) (rest := [.ref v1]) ⟨hx, hb, hml, hown, hts⟩ (m_X0_sizeOf l D cy tq _ Y _ _ _ _) (va_cwS 2 hts (good_S kw_1085 kw_355 kw_20 kw_356) rfl rfl rfl (by decide +kernel) ⟨Nat.le_of_ble_eq_true rfl, Nat.le_of_ble_eq_true rfl⟩) (gm_preS hK hW hC hS hA hf) rfl rfl hl.1 rfl (lv_room (Nat.le_of_ble_eq_true rfl)) dX2_replaceClosed_143 ⟨Nat.le_of_ble_eq_true rfl, Nat.le_of_ble_eq_true rfl⟩) hW hS hA (fun r27 M26 H locs hW hS hf => ?_)
              refine gm_ci (va_runV (As := [.int r27]) (rest := []) ⟨hx, hb, hml, hown, hts⟩ (m_X8_addBatch l D cy tq _ Y _ _ _ _) (cwV 1 hts (good_V kw_1132 kw_360 kw_361 kw_9 kw_362) rfl rfl rfl (by decide +kernel) ⟨Nat.le_of_ble_eq_true rfl, Nat.le_of_ble_eq_true rfl⟩) (gm_preV hK hW hC hS hA k1 (by decide) (q := (RX8, TX8, 9)) rfl rfl hf) rfl rfl hl.1 rfl (lv_room (Nat.le_of_ble_eq_true rfl)) dX2_replaceClosed_146 ⟨Nat.le_of_ble_eq_true rfl, Nat.le_of_ble_eq_true rfl⟩) hW hS hA (fun r29 M28 H locs hW hS hf => ?_)
              refine lv_pop hx hb dX2_replaceClosed_149 rfl ?_
              obtain ⟨x30, ex30⟩ : ∃ y : Int32, y = x19 + 1 := ⟨_, rfl⟩
              replace hf := hf x30 ex30
              refine lv_iinc (v := x30) (lv' := [(7, .int x30), (0, .ref v0), (1, .ref v1), (4, .int x10), (5, .int x11)]) hx hb dX2_replaceClosed_150 hl (k := 4) rfl (by rw [ex30]; rfl) (by decide) rfl (fun ls hl => ?_)
              refine lv_goto (tgt := 121) hx hb dX2_replaceClosed_153 (by decide) ?_
              exact ih121 _ _ _ _ _ (lv_sub hl [1, 2, 3, 4, 0] rfl) hW hS hf
        exact lp121 n121 _ _ _ _ _ (lv_sub hl [1, 2, 4, 5, 0] rfl) hW hS hf
      · replace hf := hf.2 c17
        refine lv_aload_n hx hb dX2_replaceClosed_50 rfl (lv_at hl 1 rfl) ?_
        refine lv_aload_n hx hb dX2_replaceClosed_51 rfl (lv_at hl 0 rfl) ?_
        obtain ⟨b31, hb31, hf⟩ := hf
        refine gm_getR (C := RX2) (T := TX2) (N := 13) (j := 10) hx hb hts inT_2 hown hK hW k16 (by decide) rfl (by decide) rfl (hts _ kw_249) rfl dX2_replaceClosed_52 hb31 ?_
        refine lv_iload hx hb dX2_replaceClosed_55 (lv_at hl 6 rfl) ?_
        obtain ⟨k32, hf⟩ := hf
        obtain ⟨h33, hf⟩ := hf
        refine gm_iald hx hb hK hW k32 h33 dX2_replaceClosed_57 ?_
        refine gm_cv (va_runV (As := [.int (mI M15 b31 x14.toNatClampNeg)]) (rest := []) ⟨hx, hb, hml, hown, hts⟩ (m_X8_addSegment l D cy tq _ Y _ _ _ _) (cwV 1 hts (good_V kw_1131 kw_348 kw_349 kw_9 kw_350) rfl rfl rfl (by decide +kernel) ⟨Nat.le_of_ble_eq_true rfl, Nat.le_of_ble_eq_true rfl⟩) (gm_preV hK hW hC hS hA k1 (by decide) (q := (RX8, TX8, 9)) rfl rfl hf) rfl rfl hl.1 rfl (lv_room (Nat.le_of_ble_eq_true rfl)) dX2_replaceClosed_58 ⟨Nat.le_of_ble_eq_true rfl, Nat.le_of_ble_eq_true rfl⟩) hW hS hA (fun M34 H locs hW hS hf => ?_)
        refine lv_iconst (v := 0) hx hb dX2_replaceClosed_61 (by decide +kernel) ?_
        refine lv_istore (lv' := [(8, .int 0), (0, .ref v0), (1, .ref v1), (3, .int x6), (4, .int x10), (5, .int x11), (6, .int x13), (7, .int x14)]) hx hb dX2_replaceClosed_62 hl (by decide) rfl (fun ls hl => ?_)
        obtain ⟨n64, hf⟩ := hf
        have lp64 : ∀ (n64 : Nat) (x35 : Int32) (x36 : Int32) (M37 : Mm) (H : Heap) (locs : List Loc) (ls : Array Slot), lv_has ls 10 [(0, .ref v0), (1, .ref v1), (3, .int x6), (4, .int x10), (5, .int x11), (6, .int x35), (7, .int x14), (8, .int x36)] → Wd D cy A Y M37 H → va_S A s.heap H locs → LOOP3 (L_X2_replaceClosed_64 Y v0 v1 x14 (LOOP3 (L_X2_replaceClosed_41 Y v0 v1 Kn x6 x10 x11) n41)) n64 x35 x36 M37 → W p l e rm_X2_replaceClosed s m args below meth c H locs 0 0 (MQ below (va_Qv Kn (BG D cy A Y) A) args s 0 0 A) (F0 m 64 ls []) := by
          intro n64
          induction n64 with
          | zero => intro x35 x36 M37 H locs ls hl hW hS hf; exact hf.elim
          | succ n64 ih64 =>
            intro x35 x36 M37 H locs ls hl hW hS hf
            replace hf : L_X2_replaceClosed_64 Y v0 v1 x14 (LOOP3 (L_X2_replaceClosed_41 Y v0 v1 Kn x6 x10 x11) n41) x35 x36 M37 (LOOP3 (L_X2_replaceClosed_64 Y v0 v1 x14 (LOOP3 (L_X2_replaceClosed_41 Y v0 v1 Kn x6 x10 x11) n41)) n64) := hf
            unfold L_X2_replaceClosed_64 at hf
            refine lv_iload hx hb dX2_replaceClosed_64 (lv_at hl 7 rfl) ?_
            refine lv_aload_n hx hb dX2_replaceClosed_66 rfl (lv_at hl 0 rfl) ?_
            obtain ⟨b38, hb38, hf⟩ := hf
            refine gm_getR (C := RX2) (T := TX2) (N := 13) (j := 12) hx hb hts inT_2 hown hK hW k16 (by decide) rfl (by decide) rfl (hts _ kw_251) rfl dX2_replaceClosed_67 hb38 ?_
            refine lv_iload hx hb dX2_replaceClosed_70 (lv_at hl 6 rfl) ?_
            obtain ⟨k39, hf⟩ := hf
            obtain ⟨h40, hf⟩ := hf
            refine gm_iald hx hb hK hW k39 h40 dX2_replaceClosed_72 ?_
            refine lv_icmp_ge (tgt := 107) hx hb dX2_replaceClosed_73 (by decide) (fun c41 => ?_) (fun c41 => ?_)
            · replace hf := hf.1 c41
              obtain ⟨x42, ex42⟩ : ∃ y : Int32, y = x14 + 1 := ⟨_, rfl⟩
              replace hf := hf x42 ex42
              refine lv_iinc (v := x42) (lv' := [(7, .int x42), (0, .ref v0), (1, .ref v1), (3, .int x6), (4, .int x10), (5, .int x11), (6, .int x35), (8, .int x36)]) hx hb dX2_replaceClosed_107 hl (k := 6) rfl (by rw [ex42]; rfl) (by decide) rfl (fun ls hl => ?_)
              refine lv_goto (tgt := 41) hx hb dX2_replaceClosed_110 (by decide) ?_
              exact ih41 _ _ _ _ _ _ (lv_sub hl [1, 2, 3, 4, 5, 6, 0] rfl) hW hS hf
            · replace hf := hf.2 c41
              refine lv_aload_n hx hb dX2_replaceClosed_76 rfl (lv_at hl 0 rfl) ?_
              obtain ⟨b43, hb43, hf⟩ := hf
              refine gm_getR (C := RX2) (T := TX2) (N := 13) (j := 6) hx hb hts inT_2 hown hK hW k16 (by decide) rfl (by decide) rfl (hts _ kw_245) rfl dX2_replaceClosed_77 hb43 ?_
              refine lv_iload hx hb dX2_replaceClosed_80 (lv_at hl 5 rfl) ?_
              refine gm_ci (va_runS (As := [.ref b43, .int x35]) (rest := []) ⟨hx, hb, hml, hown, hts⟩ (m_X0_sizeOf l D cy tq _ Y _ _ _ _) (va_cwS 2 hts (good_S kw_1085 kw_355 kw_20 kw_356) rfl rfl rfl (by decide +kernel) ⟨Nat.le_of_ble_eq_true rfl, Nat.le_of_ble_eq_true rfl⟩) (gm_preS hK hW hC hS hA hf) rfl rfl hl.1 rfl (lv_room (Nat.le_of_ble_eq_true rfl)) dX2_replaceClosed_82 ⟨Nat.le_of_ble_eq_true rfl, Nat.le_of_ble_eq_true rfl⟩) hW hS hA (fun r45 M44 H locs hW hS hf => ?_)
              refine lv_istore (lv' := [(9, .int r45), (0, .ref v0), (1, .ref v1), (3, .int x6), (4, .int x10), (5, .int x11), (6, .int x35), (7, .int x14), (8, .int x36)]) hx hb dX2_replaceClosed_85 hl (by decide) rfl (fun ls hl => ?_)
              refine lv_aload_n hx hb dX2_replaceClosed_87 rfl (lv_at hl 2 rfl) ?_
              refine lv_iload hx hb dX2_replaceClosed_88 (lv_at hl 0 rfl) ?_
              refine gm_ci (va_runV (As := [.int r45]) (rest := []) ⟨hx, hb, hml, hown, hts⟩ (m_X8_addBatch l D cy tq _ Y _ _ _ _) (cwV 1 hts (good_V kw_1132 kw_360 kw_361 kw_9 kw_362) rfl rfl rfl (by decide +kernel) ⟨Nat.le_of_ble_eq_true rfl, Nat.le_of_ble_eq_true rfl⟩) (gm_preV hK hW hC hS hA k1 (by decide) (q := (RX8, TX8, 9)) rfl rfl hf) rfl rfl hl.1 rfl (lv_room (Nat.le_of_ble_eq_true rfl)) dX2_replaceClosed_90 ⟨Nat.le_of_ble_eq_true rfl, Nat.le_of_ble_eq_true rfl⟩) hW hS hA (fun r47 M46 H locs hW hS hf => ?_)
              refine lv_pop hx hb dX2_replaceClosed_93 rfl ?_
              refine lv_iload hx hb dX2_replaceClosed_94 (lv_at hl 6 rfl) ?_
              refine lv_iload hx hb dX2_replaceClosed_96 (lv_at hl 0 rfl) ?_
              refine lv_iadd hx hb dX2_replaceClosed_98 ?_
              refine lv_topi (fun x48 ex48 => ?_)
              replace hf := hf x48 ex48
              refine lv_istore (lv' := [(6, .int x48), (9, .int r45), (0, .ref v0), (1, .ref v1), (3, .int x6), (4, .int x10), (5, .int x11), (7, .int x14), (8, .int x36)]) hx hb dX2_replaceClosed_99 hl (by decide) rfl (fun ls hl => ?_)
              obtain ⟨x49, ex49⟩ : ∃ y : Int32, y = x36 + 1 := ⟨_, rfl⟩
              replace hf := hf x49 ex49
              refine lv_iinc (v := x49) (lv' := [(8, .int x49), (6, .int x48), (9, .int r45), (0, .ref v0), (1, .ref v1), (3, .int x6), (4, .int x10), (5, .int x11), (7, .int x14)]) hx hb dX2_replaceClosed_101 hl (k := 8) rfl (by rw [ex49]; rfl) (by decide) rfl (fun ls hl => ?_)
              refine lv_goto (tgt := 64) hx hb dX2_replaceClosed_104 (by decide) ?_
              exact ih64 _ _ _ _ _ _ (lv_sub hl [3, 4, 5, 6, 7, 1, 8, 0] rfl) hW hS hf
        exact lp64 n64 _ _ _ _ _ _ (lv_sub hl [1, 2, 3, 4, 5, 6, 7, 0] rfl) hW hS hf
  exact lp41 n41 _ _ _ _ _ _ (lv_sub hl [6, 7, 4, 3, 2, 1, 0] rfl) hW hS hf

abbrev rm_X2_write : Room := { frames := 6, cells := 0, slots := 0, locals := 178 }
def L_X2_write_4 (Y : Ly) (v0 : Nat) (v1 : Nat) (Kn : Int32 → Mm → Prop) (x1 : Int32) (x2 : Int32) (M3 : Mm) (again4 : Int32 → Int32 → Mm → Prop) : Prop :=
  yK Y v0 = 2 ∧ (((mI M3 v0 9) ≤ x2 → (f_X2_replaceClosed Y v0 v1 M3 (fun M6 => (∃ b7 : Nat, mR M6 v0 0 = some b7 ∧ (yK Y b7 = 9 ∧ (f_X9_writeHead Y b7 v1 M6 (fun r9 M8 => (bz r9 ∧ Kn r9 M8)))))))) ∧ (¬ ((mI M3 v0 9) ≤ x2) → (∃ b11 : Nat, mR M3 v0 0 = some b11 ∧ (yK Y b11 = 9 ∧ (∃ b13 : Nat, mR M3 b11 0 = some b13 ∧ (∃ b14 : Nat, mR M3 v0 10 = some b14 ∧ (yK Y b14 = 101 ∧ (vp_in x2 (yN Y b14) ∧ (∃ b17 : Nat, mR M3 v0 6 = some b17 ∧ (∃ b18 : Nat, mR M3 v0 11 = some b18 ∧ (yK Y b18 = 101 ∧ (vp_in x2 (yN Y b18) ∧ (yK Y b13 = 3 ∧ (f_X3_write Y b13 ((mI M3 b14 x2.toNatClampNeg) * 1024) b17 x1 (mI M3 b18 x2.toNatClampNeg) M3 (fun r22 M21 => ((¬ r22 = 0 → (∃ b25 : Nat, mR M21 v0 11 = some b25 ∧ (yK Y b25 = 101 ∧ (vp_in x2 (yN Y b25) ∧ (∀ x28 : Int32, x28 = x1 + (mI M21 b25 x2.toNatClampNeg) → (∀ x29 : Int32, x29 = x2 + 1 → (again4 x28 x29 M21))))))) ∧ (r22 = 0 → (bz 0 ∧ Kn 0 M21))))))))))))))))))
def f_X2_write (Y : Ly) (v0 : Nat) (v1 : Nat) (M : Mm) (Kn : Int32 → Mm → Prop) : Prop :=
  ∃ n, LOOP3 (L_X2_write_4 Y v0 v1 Kn) n 0 0 M
set_option maxHeartbeats 4000000 in
set_option maxRecDepth 100000 in
theorem m_X2_write (l : Launch) (D : va_G) (cy : Cy) (tq sz : Nat) (Y : Ly) (v0 : Nat) (v1 : Nat) (M : Mm) (Kn : Int32 → Mm → Prop) : Met l yX2_write (Cond.code yX2_write cX2_write 4 (some .boolean) :: TT) rm_X2_write (PcG D cy tq [.ref v0, .ref v1] sz Y M (f_X2_write Y v0 v1 M Kn)) (va_Qi Kn (BG D cy (Am Y sz) Y) (Am Y sz)) 0 0 (Am Y sz) := by
  refine Met.ofW (cc := cX2_write) (maxL := 4) (ret := (some .boolean)) (by decide) rfl ?_
  intro p e s m args below meth c s₁ B hml hv
  obtain ⟨hargs, hsz, hW, hK, hC, hf⟩ := hv
  subst hsz
  have hx := B.exec
  have hb := B.bytes
  have hr := B.returns
  have hts : ∀ w ∈ TT, w.before args s = true := fun w h => atoms_spec (ws := Cond.code yX2_write cX2_write 4 (some .boolean) :: TT) B.pre w (List.mem_cons_of_mem _ h)
  have hown : s.vm.findClass RX2 = some m.cls := findClass_of_methodNamed B.named
  have hlocks := B.notSynchronized
  replace hW := Wd_self (sz := s.heap.size) hW
  generalize hAe : Am Y s.heap.size = A at hW hC ⊢
  have hA : ∀ q : Nat, s.heap.size ≤ q → A q := fun q h => by rw [← hAe]; exact Or.inr h
  clear hAe
  have hS : va_S A s.heap s.heap [] := va_S.rf
  obtain ⟨ls, hE, hl⟩ := gm_entry m [.ref v0, .ref v1] (n := 4) hargs (Nat.le_of_ble_eq_true rfl)
  rw [hE]
  have hl : lv_has ls 4 [(0, .ref v0), (1, .ref v1)] := hl
  show W p l e rm_X2_write s m args below meth c s.heap [] 0 0 (MQ below (va_Qi Kn (BG D cy A Y) A) args s 0 0 A) (F0 m 0 ls [])
  unfold f_X2_write at hf
  refine lv_iconst (v := 0) hx hb dX2_write_0 (by decide +kernel) ?_
  refine lv_istore_n (lv' := [(2, .int 0), (0, .ref v0), (1, .ref v1)]) hx hb dX2_write_1 rfl hl (by decide) rfl (fun ls hl => ?_)
  refine lv_iconst (v := 0) hx hb dX2_write_2 (by decide +kernel) ?_
  refine lv_istore_n (lv' := [(3, .int 0), (2, .int 0), (0, .ref v0), (1, .ref v1)]) hx hb dX2_write_3 rfl hl (by decide) rfl (fun ls hl => ?_)
  obtain ⟨n4, hf⟩ := hf
  have lp4 : ∀ (n4 : Nat) (x1 : Int32) (x2 : Int32) (M3 : Mm) (H : Heap) (locs : List Loc) (ls : Array Slot), lv_has ls 4 [(0, .ref v0), (1, .ref v1), (2, .int x1), (3, .int x2)] → Wd D cy A Y M3 H → va_S A s.heap H locs → LOOP3 (L_X2_write_4 Y v0 v1 Kn) n4 x1 x2 M3 → W p l e rm_X2_write s m args below meth c H locs 0 0 (MQ below (va_Qi Kn (BG D cy A Y) A) args s 0 0 A) (F0 m 4 ls []) := by
    intro n4
    induction n4 with
    | zero => intro x1 x2 M3 H locs ls hl hW hS hf; exact hf.elim
    | succ n4 ih4 =>
      intro x1 x2 M3 H locs ls hl hW hS hf
      replace hf : L_X2_write_4 Y v0 v1 Kn x1 x2 M3 (LOOP3 (L_X2_write_4 Y v0 v1 Kn) n4) := hf
      unfold L_X2_write_4 at hf
      refine lv_iload_n hx hb dX2_write_4 rfl (lv_at hl 3 rfl) ?_
      refine lv_aload_n hx hb dX2_write_5 rfl (lv_at hl 0 rfl) ?_
      obtain ⟨k4, hf⟩ := hf
      refine gm_getI (C := RX2) (T := TX2) (N := 13) (j := 9) hx hb hts inT_2 hown hK hW k4 (by decide) rfl (by decide) rfl (hts _ kw_248) rfl dX2_write_6 ?_
      refine lv_icmp_ge (tgt := 63) hx hb dX2_write_9 (by decide) (fun c5 => ?_) (fun c5 => ?_)
      · replace hf := hf.1 c5
        refine lv_aload_n hx hb dX2_write_63 rfl (lv_at hl 0 rfl) ?_
        refine lv_aload_n hx hb dX2_write_64 rfl (lv_at hl 1 rfl) ?_
        refine gm_cv (va_runV (As := [.ref v1]) (rest := []) ⟨hx, hb, hml, hown, hts⟩ (m_X2_replaceClosed l D cy tq _ Y _ _ _ _) (cwV 1 hts (good_V kw_1127 kw_1128 kw_1814 kw_10 kw_1129) rfl rfl rfl (by decide +kernel) ⟨Nat.le_of_ble_eq_true rfl, Nat.le_of_ble_eq_true rfl⟩) (gm_preV hK hW hC hS hA k4 (by decide) (q := (RX2, TX2, 13)) rfl rfl hf) rfl rfl hl.1 rfl (lv_room (Nat.le_of_ble_eq_true rfl)) dX2_write_65 ⟨Nat.le_of_ble_eq_true rfl, Nat.le_of_ble_eq_true rfl⟩) hW hS hA (fun M6 H locs hW hS hf => ?_)
        refine lv_aload_n hx hb dX2_write_68 rfl (lv_at hl 0 rfl) ?_
        obtain ⟨b7, hb7, hf⟩ := hf
        refine gm_getR (C := RX2) (T := TX2) (N := 13) (j := 0) hx hb hts inT_2 hown hK hW k4 (by decide) rfl (by decide) rfl (hts _ kw_239) rfl dX2_write_69 hb7 ?_
        refine lv_aload_n hx hb dX2_write_72 rfl (lv_at hl 1 rfl) ?_
        obtain ⟨k10, hf⟩ := hf
        refine gm_ci (va_runV (As := [.ref v1]) (rest := []) ⟨hx, hb, hml, hown, hts⟩ (m_X9_writeHead l D cy tq _ Y _ _ _ _) (cwV 1 hts (good_V kw_1133 kw_918 kw_919 kw_8 kw_920) rfl rfl rfl (by decide +kernel) ⟨Nat.le_of_ble_eq_true rfl, Nat.le_of_ble_eq_true rfl⟩) (gm_preV hK hW hC hS hA k10 (by decide) (q := (RX9, TX9, 7)) rfl rfl hf) rfl rfl hl.1 rfl (lv_room (Nat.le_of_ble_eq_true rfl)) dX2_write_73 ⟨Nat.le_of_ble_eq_true rfl, Nat.le_of_ble_eq_true rfl⟩) hW hS hA (fun r9 M8 H locs hW hS hf => ?_)
        exact gm_zret hx hb hr hlocks hW hS hf.1 hf.2 dX2_write_76
      · replace hf := hf.2 c5
        refine lv_aload_n hx hb dX2_write_12 rfl (lv_at hl 0 rfl) ?_
        obtain ⟨b11, hb11, hf⟩ := hf
        refine gm_getR (C := RX2) (T := TX2) (N := 13) (j := 0) hx hb hts inT_2 hown hK hW k4 (by decide) rfl (by decide) rfl (hts _ kw_239) rfl dX2_write_13 hb11 ?_
        obtain ⟨k12, hf⟩ := hf
        obtain ⟨b13, hb13, hf⟩ := hf
        refine gm_getR (C := RX9) (T := TX9) (N := 7) (j := 0) hx hb hts inT_9 hown hK hW k12 (by decide) rfl (by decide) rfl (hts _ kw_214) rfl dX2_write_16 hb13 ?_
        refine lv_aload_n hx hb dX2_write_19 rfl (lv_at hl 0 rfl) ?_
        obtain ⟨b14, hb14, hf⟩ := hf
        refine gm_getR (C := RX2) (T := TX2) (N := 13) (j := 10) hx hb hts inT_2 hown hK hW k4 (by decide) rfl (by decide) rfl (hts _ kw_249) rfl dX2_write_20 hb14 ?_
        refine lv_iload_n hx hb dX2_write_23 rfl (lv_at hl 3 rfl) ?_
        obtain ⟨k15, hf⟩ := hf
        obtain ⟨h16, hf⟩ := hf
        refine gm_iald hx hb hK hW k15 h16 dX2_write_24 ?_
        refine lv_sipush (v := 1024) hx hb dX2_write_25 (by decide +kernel) ?_
        refine lv_imul hx hb dX2_write_28 ?_
        refine lv_aload_n hx hb dX2_write_29 rfl (lv_at hl 0 rfl) ?_
        obtain ⟨b17, hb17, hf⟩ := hf
        refine gm_getR (C := RX2) (T := TX2) (N := 13) (j := 6) hx hb hts inT_2 hown hK hW k4 (by decide) rfl (by decide) rfl (hts _ kw_245) rfl dX2_write_30 hb17 ?_
        refine lv_iload_n hx hb dX2_write_33 rfl (lv_at hl 2 rfl) ?_
        refine lv_aload_n hx hb dX2_write_34 rfl (lv_at hl 0 rfl) ?_
        obtain ⟨b18, hb18, hf⟩ := hf
        refine gm_getR (C := RX2) (T := TX2) (N := 13) (j := 11) hx hb hts inT_2 hown hK hW k4 (by decide) rfl (by decide) rfl (hts _ kw_250) rfl dX2_write_35 hb18 ?_
        refine lv_iload_n hx hb dX2_write_38 rfl (lv_at hl 3 rfl) ?_
        obtain ⟨k19, hf⟩ := hf
        obtain ⟨h20, hf⟩ := hf
        refine gm_iald hx hb hK hW k19 h20 dX2_write_39 ?_
        obtain ⟨k23, hf⟩ := hf
        refine gm_ci (va_runV (As := [.int ((mI M3 b14 x2.toNatClampNeg) * 1024), .ref b17, .int x1, .int (mI M3 b18 x2.toNatClampNeg)]) (rest := []) ⟨hx, hb, hml, hown, hts⟩ (m_X3_write l D cy tq _ Y _ _ _ _ _ _ _) (cwV 4 hts (good_V kw_1126 kw_846 kw_847 kw_7 kw_848) rfl rfl rfl (by decide +kernel) ⟨Nat.le_of_ble_eq_true rfl, Nat.le_of_ble_eq_true rfl⟩) (gm_preV hK hW hC hS hA k23 (by decide) (q := (RX3, TX3, 4)) rfl rfl hf) rfl rfl hl.1 rfl (lv_room (Nat.le_of_ble_eq_true rfl)) dX2_write_40 ⟨Nat.le_of_ble_eq_true rfl, Nat.le_of_ble_eq_true rfl⟩) hW hS hA (fun r22 M21 H locs hW hS hf => ?_)
        refine lv_if_ne (tgt := 48) hx hb dX2_write_43 (by decide) (fun c24 => ?_) (fun c24 => ?_)
        · replace hf := hf.1 c24
          refine lv_iload_n hx hb dX2_write_48 rfl (lv_at hl 2 rfl) ?_
          refine lv_aload_n hx hb dX2_write_49 rfl (lv_at hl 0 rfl) ?_
          obtain ⟨b25, hb25, hf⟩ := hf
          refine gm_getR (C := RX2) (T := TX2) (N := 13) (j := 11) hx hb hts inT_2 hown hK hW k4 (by decide) rfl (by decide) rfl (hts _ kw_250) rfl dX2_write_50 hb25 ?_
          refine lv_iload_n hx hb dX2_write_53 rfl (lv_at hl 3 rfl) ?_
          obtain ⟨k26, hf⟩ := hf
          obtain ⟨h27, hf⟩ := hf
          refine gm_iald hx hb hK hW k26 h27 dX2_write_54 ?_
          refine lv_iadd hx hb dX2_write_55 ?_
          refine lv_topi (fun x28 ex28 => ?_)
          replace hf := hf x28 ex28
          refine lv_istore_n (lv' := [(2, .int x28), (0, .ref v0), (1, .ref v1), (3, .int x2)]) hx hb dX2_write_56 rfl hl (by decide) rfl (fun ls hl => ?_)
          obtain ⟨x29, ex29⟩ : ∃ y : Int32, y = x2 + 1 := ⟨_, rfl⟩
          replace hf := hf x29 ex29
          refine lv_iinc (v := x29) (lv' := [(3, .int x29), (2, .int x28), (0, .ref v0), (1, .ref v1)]) hx hb dX2_write_57 hl (k := 3) rfl (by rw [ex29]; rfl) (by decide) rfl (fun ls hl => ?_)
          refine lv_goto (tgt := 4) hx hb dX2_write_60 (by decide) ?_
          exact ih4 _ _ _ _ _ _ (lv_sub hl [2, 3, 1, 0] rfl) hW hS hf
        · replace hf := hf.2 c24
          refine lv_iconst (v := 0) hx hb dX2_write_46 (by decide +kernel) ?_
          exact gm_zret hx hb hr hlocks hW hS hf.1 hf.2 dX2_write_47
  exact lp4 n4 _ _ _ _ _ _ (lv_sub hl [2, 3, 1, 0] rfl) hW hS hf

abbrev rm_X2_run : Room := { frames := 7, cells := 0, slots := 0, locals := 201 }
def f_X2_run_183 (Y : Ly) (Kn : Int32 → Mm → Prop) (M16 : Mm) (y18 : Int32) : Prop :=
  Kn y18 M16
def f_X2_run_158 (Y : Ly) (v0 : Nat) (v1 : Nat) (Kn : Int32 → Mm → Prop) (x8 : Int32) (M11 : Mm) : Prop :=
  f_X2_findRoom Y v0 M11 (fun r14 M13 => ((¬ r14 = 0 → (f_X2_write Y v0 v1 M13 (fun r17 M16 => ((r17 = 0 → (f_X2_run_183 Y Kn M16 (-3))) ∧ (¬ (r17 = 0) → (f_X2_run_183 Y Kn M16 x8)))))) ∧ (r14 = 0 → (Kn (-2) M13))))
def f_X2_run_140 (Y : Ly) (x10 : Int32) (again59 : Int32 → Int32 → Int32 → Mm → Prop) (x33 : Int32) (x34 : Int32) (M35 : Mm) : Prop :=
  ∀ x36 : Int32, x36 = x10 + 1 → (again59 x33 x34 x36 M35)
def f_X2_run_134 (Y : Ly) (v0 : Nat) (x9 : Int32) (x10 : Int32) (again59 : Int32 → Int32 → Int32 → Mm → Prop) (r26 : Int32) (x33 : Int32) (M37 : Mm) : Prop :=
  f_X2_keepStaged Y v0 r26 M37 (fun M38 => (f_X2_run_140 Y x10 again59 x33 x9 M38))
def L_X2_run_59 (Y : Ly) (v0 : Nat) (v1 : Nat) (v2 : Int32) (Kn : Int32 → Mm → Prop) (y2 : Int32) (x8 : Int32) (x9 : Int32) (x10 : Int32) (M11 : Mm) (again59 : Int32 → Int32 → Int32 → Mm → Prop) : Prop :=
  (y2 ≤ x10 → ((¬ x8 = 0 → (f_X2_run_158 Y v0 v1 Kn x8 M11)) ∧ (x8 = 0 → ((¬ x9 = 0 → (f_X2_run_158 Y v0 v1 Kn x8 M11)) ∧ (x9 = 0 → (Kn 0 M11)))))) ∧ (¬ (y2 ≤ x10) → (∃ b22 : Nat, mR M11 v1 8 = some b22 ∧ (yK Y b22 = 101 ∧ (vp_in x10 (yN Y b22) ∧ (f_X2_stageKept Y v0 (mI M11 b22 x10.toNatClampNeg) v2 M11 (fun r26 M25 => (∃ b27 : Nat, mR M25 v0 1 = some b27 ∧ (∃ b28 : Nat, mR M25 v1 8 = some b28 ∧ (yK Y b28 = 101 ∧ (vp_in x10 (yN Y b28) ∧ (f_X0_countOf Y b27 (mI M25 b28 x10.toNatClampNeg) M25 (fun r32 M31 => (∀ x33 : Int32, x33 = x8 + (r32 - (mI M31 v0 8)) → ((¬ (mI M31 v0 8) = 0 → (f_X2_run_134 Y v0 x9 x10 again59 r26 x33 M31)) ∧ ((mI M31 v0 8) = 0 → (∃ b40 : Nat, mR M31 v0 0 = some b40 ∧ (∃ b41 : Nat, mR M31 v1 8 = some b41 ∧ (yK Y b41 = 101 ∧ (vp_in x10 (yN Y b41) ∧ (yK Y b40 = 9 ∧ (f_X9_isKnown Y b40 v1 (mI M31 b41 x10.toNatClampNeg) M31 (fun r45 M44 => ((¬ r45 = 0 → (f_X2_run_134 Y v0 x9 x10 again59 r26 x33 M44)) ∧ (r45 = 0 → (∀ x48 : Int32, x48 = x9 + 1 → (f_X2_run_140 Y x10 again59 x33 x48 M44))))))))))))))))))))))))))
def f_X2_run_28 (Y : Ly) (v0 : Nat) (v1 : Nat) (v2 : Int32) (M : Mm) (Kn : Int32 → Mm → Prop) (y2 : Int32) : Prop :=
  (¬ y2 = 0 → (yK Y v0 = 2 ∧ (f_X2_noteLatestKeys Y v0 v1 M (fun M4 => (∀ M6 : Mm, M6 = sI M4 v0 (m1 (mI M4 v0) 7 0) → (∀ M7 : Mm, M7 = sI M6 v0 (m1 (mI M6 v0) 9 0) → (∃ n, LOOP4 (L_X2_run_59 Y v0 v1 v2 Kn y2) n 0 0 0 M7))))))) ∧ (y2 = 0 → (Kn 0 M))
def f_X2_run (Y : Ly) (v0 : Nat) (v1 : Nat) (v2 : Int32) (M : Mm) (Kn : Int32 → Mm → Prop) : Prop :=
  yK Y v1 = 8 ∧ ((2 ≤ (mI M v1 3) → (∃ b50 : Nat, mR M v1 6 = some b50 ∧ (yK Y b50 = 101 ∧ (vp_in ((mI M v1 3) - 1) (yN Y b50) ∧ (f_X2_run_28 Y v0 v1 v2 M Kn ((mI M v1 7) - (mI M b50 ((mI M v1 3) - 1).toNatClampNeg))))))) ∧ (¬ (2 ≤ (mI M v1 3)) → (f_X2_run_28 Y v0 v1 v2 M Kn 0)))
set_option maxHeartbeats 4000000 in
set_option maxRecDepth 100000 in
theorem m_X2_run (l : Launch) (D : va_G) (cy : Cy) (tq sz : Nat) (Y : Ly) (v0 : Nat) (v1 : Nat) (v2 : Int32) (M : Mm) (Kn : Int32 → Mm → Prop) : Met l yX2_run (Cond.code yX2_run cX2_run 8 (some .int) :: TT) rm_X2_run (PcG D cy tq [.ref v0, .ref v1, .int v2] sz Y M (f_X2_run Y v0 v1 v2 M Kn)) (va_Qi Kn (BG D cy (Am Y sz) Y) (Am Y sz)) 0 0 (Am Y sz) := by
  refine Met.ofW (cc := cX2_run) (maxL := 8) (ret := (some .int)) (by decide) rfl ?_
  intro p e s m args below meth c s₁ B hml hv
  obtain ⟨hargs, hsz, hW, hK, hC, hf⟩ := hv
  subst hsz
  have hx := B.exec
  have hb := B.bytes
  have hr := B.returns
  have hts : ∀ w ∈ TT, w.before args s = true := fun w h => atoms_spec (ws := Cond.code yX2_run cX2_run 8 (some .int) :: TT) B.pre w (List.mem_cons_of_mem _ h)
  have hown : s.vm.findClass RX2 = some m.cls := findClass_of_methodNamed B.named
  have hlocks := B.notSynchronized
  replace hW := Wd_self (sz := s.heap.size) hW
  generalize hAe : Am Y s.heap.size = A at hW hC ⊢
  have hA : ∀ q : Nat, s.heap.size ≤ q → A q := fun q h => by rw [← hAe]; exact Or.inr h
  clear hAe
  have hS : va_S A s.heap s.heap [] := va_S.rf
  obtain ⟨ls, hE, hl⟩ := gm_entry m [.ref v0, .ref v1, .int v2] (n := 8) hargs (Nat.le_of_ble_eq_true rfl)
  rw [hE]
  have hl : lv_has ls 8 [(0, .ref v0), (1, .ref v1), (2, .int v2)] := hl
  show W p l e rm_X2_run s m args below meth c s.heap [] 0 0 (MQ below (va_Qi Kn (BG D cy A Y) A) args s 0 0 A) (F0 m 0 ls [])
  unfold f_X2_run at hf
  refine lv_aload_n hx hb dX2_run_0 rfl (lv_at hl 1 rfl) ?_
  obtain ⟨k1, hf⟩ := hf
  refine gm_getI (C := RX8) (T := TX8) (N := 9) (j := 3) hx hb hts inT_8 hown hK hW k1 (by decide) rfl (by decide) rfl (hts _ kw_178) rfl dX2_run_1 ?_
  refine lv_iconst (v := 2) hx hb dX2_run_4 (by decide +kernel) ?_
  have j28 : ∀ (y2 : Int32) (H : Heap) (locs : List Loc) (ls : Array Slot), lv_has ls 8 [(0, .ref v0), (1, .ref v1), (2, .int v2)] → Wd D cy A Y M H → va_S A s.heap H locs → f_X2_run_28 Y v0 v1 v2 M Kn y2 → W p l e rm_X2_run s m args below meth c H locs 0 0 (MQ below (va_Qi Kn (BG D cy A Y) A) args s 0 0 A) (F0 m 28 ls [.int y2]) := by
    intro y2 H locs ls hl hW hS hf
    unfold f_X2_run_28 at hf
    refine lv_istore_n (lv' := [(3, .int y2), (0, .ref v0), (1, .ref v1), (2, .int v2)]) hx hb dX2_run_28 rfl hl (by decide) rfl (fun ls hl => ?_)
    refine lv_iload_n hx hb dX2_run_29 rfl (lv_at hl 0 rfl) ?_
    refine lv_if_ne (tgt := 35) hx hb dX2_run_30 (by decide) (fun c3 => ?_) (fun c3 => ?_)
    · replace hf := hf.1 c3
      refine lv_aload_n hx hb dX2_run_35 rfl (lv_at hl 1 rfl) ?_
      refine lv_aload_n hx hb dX2_run_36 rfl (lv_at hl 2 rfl) ?_
      obtain ⟨k5, hf⟩ := hf
      refine gm_cv (va_runV (As := [.ref v1]) (rest := []) ⟨hx, hb, hml, hown, hts⟩ (m_X2_noteLatestKeys l D cy tq _ Y _ _ _ _) (cwV 1 hts (good_V kw_1073 kw_1074 kw_1806 kw_10 kw_1075) rfl rfl rfl (by decide +kernel) ⟨Nat.le_of_ble_eq_true rfl, Nat.le_of_ble_eq_true rfl⟩) (gm_preV hK hW hC hS hA k5 (by decide) (q := (RX2, TX2, 13)) rfl rfl hf) rfl rfl hl.1 rfl (lv_room (Nat.le_of_ble_eq_true rfl)) dX2_run_37 ⟨Nat.le_of_ble_eq_true rfl, Nat.le_of_ble_eq_true rfl⟩) hW hS hA (fun M4 H locs hW hS hf => ?_)
      refine lv_aload_n hx hb dX2_run_40 rfl (lv_at hl 1 rfl) ?_
      refine lv_iconst (v := 0) hx hb dX2_run_41 (by decide +kernel) ?_
      refine gm_putI (C := RX2) (T := TX2) (N := 13) (j := 7) hx hb hts inT_2 tyX2 tyX2_ok nmX2 hown hK hW hS k5 (by decide) rfl (by decide) rfl (hts _ kw_246) rfl rfl rfl rfl dX2_run_42 (fun H locs M6 eM6 hW hS => ?_)
      replace hf := hf M6 eM6
      refine lv_aload_n hx hb dX2_run_45 rfl (lv_at hl 1 rfl) ?_
      refine lv_iconst (v := 0) hx hb dX2_run_46 (by decide +kernel) ?_
      refine gm_putI (C := RX2) (T := TX2) (N := 13) (j := 9) hx hb hts inT_2 tyX2 tyX2_ok nmX2 hown hK hW hS k5 (by decide) rfl (by decide) rfl (hts _ kw_248) rfl rfl rfl rfl dX2_run_47 (fun H locs M7 eM7 hW hS => ?_)
      replace hf := hf M7 eM7
      refine lv_iconst (v := 0) hx hb dX2_run_50 (by decide +kernel) ?_
      refine lv_istore (lv' := [(4, .int 0), (3, .int y2), (0, .ref v0), (1, .ref v1), (2, .int v2)]) hx hb dX2_run_51 hl (by decide) rfl (fun ls hl => ?_)
      refine lv_iconst (v := 0) hx hb dX2_run_53 (by decide +kernel) ?_
      refine lv_istore (lv' := [(5, .int 0), (4, .int 0), (3, .int y2), (0, .ref v0), (1, .ref v1), (2, .int v2)]) hx hb dX2_run_54 hl (by decide) rfl (fun ls hl => ?_)
      refine lv_iconst (v := 0) hx hb dX2_run_56 (by decide +kernel) ?_
      refine lv_istore (lv' := [(6, .int 0), (5, .int 0), (4, .int 0), (3, .int y2), (0, .ref v0), (1, .ref v1), (2, .int v2)]) hx hb dX2_run_57 hl (by decide) rfl (fun ls hl => ?_)
      obtain ⟨n59, hf⟩ := hf
      have lp59 : ∀ (n59 : Nat) (x8 : Int32) (x9 : Int32) (x10 : Int32) (M11 : Mm) (H : Heap) (locs : List Loc) (ls : Array Slot), lv_has ls 8 [(0, .ref v0), (1, .ref v1), (2, .int v2), (3, .int y2), (4, .int x8), (5, .int x9), (6, .int x10)] → Wd D cy A Y M11 H → va_S A s.heap H locs → LOOP4 (L_X2_run_59 Y v0 v1 v2 Kn y2) n59 x8 x9 x10 M11 → W p l e rm_X2_run s m args below meth c H locs 0 0 (MQ below (va_Qi Kn (BG D cy A Y) A) args s 0 0 A) (F0 m 59 ls []) := by
        intro n59
        induction n59 with
        | zero => intro x8 x9 x10 M11 H locs ls hl hW hS hf; exact hf.elim
        | succ n59 ih59 =>
          intro x8 x9 x10 M11 H locs ls hl hW hS hf
          replace hf : L_X2_run_59 Y v0 v1 v2 Kn y2 x8 x9 x10 M11 (LOOP4 (L_X2_run_59 Y v0 v1 v2 Kn y2) n59) := hf
          unfold L_X2_run_59 at hf
          refine lv_iload hx hb dX2_run_59 (lv_at hl 6 rfl) ?_
          refine lv_iload_n hx hb dX2_run_61 rfl (lv_at hl 3 rfl) ?_
          refine lv_icmp_ge (tgt := 146) hx hb dX2_run_62 (by decide) (fun c12 => ?_) (fun c12 => ?_)
          · replace hf := hf.1 c12
            refine lv_iload hx hb dX2_run_146 (lv_at hl 4 rfl) ?_
            have j158 : ∀ (H : Heap) (locs : List Loc) (ls : Array Slot), lv_has ls 8 [(0, .ref v0), (1, .ref v1), (4, .int x8)] → Wd D cy A Y M11 H → va_S A s.heap H locs → f_X2_run_158 Y v0 v1 Kn x8 M11  → W p l e rm_X2_run s m args below meth c H locs 0 0 (MQ below (va_Qi Kn (BG D cy A Y) A) args s 0 0 A) (F0 m 158 ls []) := by
              intro  H locs ls hl hW hS hf
              unfold f_X2_run_158 at hf
              refine lv_aload_n hx hb dX2_run_158 rfl (lv_at hl 0 rfl) ?_
              refine gm_ci (va_runV (As := []) (rest := []) ⟨hx, hb, hml, hown, hts⟩ (m_X2_findRoom l D cy tq _ Y _ _ _) (cwV 0 hts (good_V kw_1118 kw_1119 kw_1812 kw_10 kw_1120) rfl rfl rfl (by decide +kernel) ⟨Nat.le_of_ble_eq_true rfl, Nat.le_of_ble_eq_true rfl⟩) (gm_preV hK hW hC hS hA k5 (by decide) (q := (RX2, TX2, 13)) rfl rfl hf) rfl rfl hl.1 rfl (lv_room (Nat.le_of_ble_eq_true rfl)) dX2_run_159 ⟨Nat.le_of_ble_eq_true rfl, Nat.le_of_ble_eq_true rfl⟩) hW hS hA (fun r14 M13 H locs hW hS hf => ?_)
              refine lv_if_ne (tgt := 168) hx hb dX2_run_162 (by decide) (fun c15 => ?_) (fun c15 => ?_)
              · replace hf := hf.1 c15
                refine lv_aload_n hx hb dX2_run_168 rfl (lv_at hl 0 rfl) ?_
                refine lv_aload_n hx hb dX2_run_169 rfl (lv_at hl 1 rfl) ?_
                refine gm_ci (va_runV (As := [.ref v1]) (rest := []) ⟨hx, hb, hml, hown, hts⟩ (m_X2_write l D cy tq _ Y _ _ _ _) (cwV 1 hts (good_V kw_1123 kw_1124 kw_1813 kw_10 kw_1125) rfl rfl rfl (by decide +kernel) ⟨Nat.le_of_ble_eq_true rfl, Nat.le_of_ble_eq_true rfl⟩) (gm_preV hK hW hC hS hA k5 (by decide) (q := (RX2, TX2, 13)) rfl rfl hf) rfl rfl hl.1 rfl (lv_room (Nat.le_of_ble_eq_true rfl)) dX2_run_170 ⟨Nat.le_of_ble_eq_true rfl, Nat.le_of_ble_eq_true rfl⟩) hW hS hA (fun r17 M16 H locs hW hS hf => ?_)
                have j183 : ∀ (y18 : Int32) (H : Heap) (locs : List Loc) (ls : Array Slot), lv_has ls 8 [] → Wd D cy A Y M16 H → va_S A s.heap H locs → f_X2_run_183 Y Kn M16 y18 → W p l e rm_X2_run s m args below meth c H locs 0 0 (MQ below (va_Qi Kn (BG D cy A Y) A) args s 0 0 A) (F0 m 183 ls [.int y18]) := by
                  intro y18 H locs ls hl hW hS hf
                  unfold f_X2_run_183 at hf
                  exact gm_iret hx hb hr hlocks hW hS hf dX2_run_183
                refine lv_if_eq (tgt := 181) hx hb dX2_run_173 (by decide) (fun c19 => ?_) (fun c19 => ?_)
                · replace hf := hf.1 c19
                  refine lv_bipush (v := -3) hx hb dX2_run_181 (by decide +kernel) ?_
                  exact j183 _ _ _ _ (lv_sub hl [] rfl) hW hS hf
                · replace hf := hf.2 c19
                  refine lv_iload hx hb dX2_run_176 (lv_at hl 2 rfl) ?_
                  refine lv_goto (tgt := 183) hx hb dX2_run_178 (by decide) ?_
                  exact j183 _ _ _ _ (lv_sub hl [] rfl) hW hS hf
              · replace hf := hf.2 c15
                refine lv_bipush (v := -2) hx hb dX2_run_165 (by decide +kernel) ?_
                exact gm_iret hx hb hr hlocks hW hS hf dX2_run_167
            refine lv_if_ne (tgt := 158) hx hb dX2_run_148 (by decide) (fun c20 => ?_) (fun c20 => ?_)
            · replace hf := hf.1 c20
              exact j158  _ _ _ (lv_sub hl [0, 1, 4] rfl) hW hS hf
            · replace hf := hf.2 c20
              refine lv_iload hx hb dX2_run_151 (lv_at hl 5 rfl) ?_
              refine lv_if_ne (tgt := 158) hx hb dX2_run_153 (by decide) (fun c21 => ?_) (fun c21 => ?_)
              · replace hf := hf.1 c21
                exact j158  _ _ _ (lv_sub hl [0, 1, 4] rfl) hW hS hf
              · replace hf := hf.2 c21
                refine lv_iconst (v := 0) hx hb dX2_run_156 (by decide +kernel) ?_
                exact gm_iret hx hb hr hlocks hW hS hf dX2_run_157
          · replace hf := hf.2 c12
            refine lv_aload_n hx hb dX2_run_65 rfl (lv_at hl 0 rfl) ?_
            refine lv_aload_n hx hb dX2_run_66 rfl (lv_at hl 1 rfl) ?_
            obtain ⟨b22, hb22, hf⟩ := hf
            refine gm_getR (C := RX8) (T := TX8) (N := 9) (j := 8) hx hb hts inT_8 hown hK hW k1 (by decide) rfl (by decide) rfl (hts _ kw_196) rfl dX2_run_67 hb22 ?_
            refine lv_iload hx hb dX2_run_70 (lv_at hl 6 rfl) ?_
            obtain ⟨k23, hf⟩ := hf
            obtain ⟨h24, hf⟩ := hf
            refine gm_iald hx hb hK hW k23 h24 dX2_run_72 ?_
            refine lv_iload_n hx hb dX2_run_73 rfl (lv_at hl 2 rfl) ?_
            refine gm_ci (va_runV (As := [.int (mI M11 b22 x10.toNatClampNeg), .int v2]) (rest := []) ⟨hx, hb, hml, hown, hts⟩ (m_X2_stageKept l D cy tq _ Y _ _ _ _ _) (cwV 2 hts (good_V kw_1097 kw_1098 kw_1809 kw_10 kw_1099) rfl rfl rfl (by decide +kernel) ⟨Nat.le_of_ble_eq_true rfl, Nat.le_of_ble_eq_true rfl⟩) (gm_preV hK hW hC hS hA k5 (by decide) (q := (RX2, TX2, 13)) rfl rfl hf) rfl rfl hl.1 rfl (lv_room (Nat.le_of_ble_eq_true rfl)) dX2_run_74 ⟨Nat.le_of_ble_eq_true rfl, Nat.le_of_ble_eq_true rfl⟩) hW hS hA (fun r26 M25 H locs hW hS hf => ?_)
            refine lv_istore (lv' := [(7, .int r26), (0, .ref v0), (1, .ref v1), (2, .int v2), (3, .int y2), (4, .int x8), (5, .int x9), (6, .int x10)]) hx hb dX2_run_77 hl (by decide) rfl (fun ls hl => ?_)
            refine lv_iload hx hb dX2_run_79 (lv_at hl 5 rfl) ?_
            refine lv_aload_n hx hb dX2_run_81 rfl (lv_at hl 1 rfl) ?_
            obtain ⟨b27, hb27, hf⟩ := hf
            refine gm_getR (C := RX2) (T := TX2) (N := 13) (j := 1) hx hb hts inT_2 hown hK hW k5 (by decide) rfl (by decide) rfl (hts _ kw_240) rfl dX2_run_82 hb27 ?_
            refine lv_aload_n hx hb dX2_run_85 rfl (lv_at hl 2 rfl) ?_
            obtain ⟨b28, hb28, hf⟩ := hf
            refine gm_getR (C := RX8) (T := TX8) (N := 9) (j := 8) hx hb hts inT_8 hown hK hW k1 (by decide) rfl (by decide) rfl (hts _ kw_196) rfl dX2_run_86 hb28 ?_
            refine lv_iload hx hb dX2_run_89 (lv_at hl 7 rfl) ?_
            obtain ⟨k29, hf⟩ := hf
            obtain ⟨h30, hf⟩ := hf
            refine gm_iald hx hb hK hW k29 h30 dX2_run_91 ?_
            refine gm_ci (va_runS (As := [.ref b27, .int (mI M25 b28 x10.toNatClampNeg)]) (rest := [.int x8]) ⟨hx, hb, hml, hown, hts⟩ (m_X0_countOf l D cy tq _ Y _ _ _ _) (va_cwS 2 hts (good_S kw_1084 kw_782 kw_20 kw_783) rfl rfl rfl (by decide +kernel) ⟨Nat.le_of_ble_eq_true rfl, Nat.le_of_ble_eq_true rfl⟩) (gm_preS hK hW hC hS hA hf) rfl rfl hl.1 rfl (lv_room (Nat.le_of_ble_eq_true rfl)) dX2_run_92 ⟨Nat.le_of_ble_eq_true rfl, Nat.le_of_ble_eq_true rfl⟩) hW hS hA (fun r32 M31 H locs hW hS hf => ?_)
            refine lv_aload_n hx hb dX2_run_95 rfl (lv_at hl 1 rfl) ?_
            refine gm_getI (C := RX2) (T := TX2) (N := 13) (j := 8) hx hb hts inT_2 hown hK hW k5 (by decide) rfl (by decide) rfl (hts _ kw_247) rfl dX2_run_96 ?_
            refine lv_isub hx hb dX2_run_99 ?_
            refine lv_iadd hx hb dX2_run_100 ?_
            refine lv_topi (fun x33 ex33 => ?_)
            replace hf := hf x33 ex33
            refine lv_istore (lv' := [(4, .int x33), (7, .int r26), (0, .ref v0), (1, .ref v1), (2, .int v2), (3, .int y2), (5, .int x9), (6, .int x10)]) hx hb dX2_run_101 hl (by decide) rfl (fun ls hl => ?_)
            refine lv_aload_n hx hb dX2_run_103 rfl (lv_at hl 2 rfl) ?_
            refine gm_getI (C := RX2) (T := TX2) (N := 13) (j := 8) hx hb hts inT_2 hown hK hW k5 (by decide) rfl (by decide) rfl (hts _ kw_247) rfl dX2_run_104 ?_
            have j140 : ∀ (x34 : Int32) (M35 : Mm) (H : Heap) (locs : List Loc) (ls : Array Slot), lv_has ls 8 [(0, .ref v0), (1, .ref v1), (2, .int v2), (3, .int y2), (4, .int x33), (5, .int x34), (6, .int x10)] → Wd D cy A Y M35 H → va_S A s.heap H locs → f_X2_run_140 Y x10 (LOOP4 (L_X2_run_59 Y v0 v1 v2 Kn y2) n59) x33 x34 M35 → W p l e rm_X2_run s m args below meth c H locs 0 0 (MQ below (va_Qi Kn (BG D cy A Y) A) args s 0 0 A) (F0 m 140 ls []) := by
              intro x34 M35 H locs ls hl hW hS hf
              unfold f_X2_run_140 at hf
              obtain ⟨x36, ex36⟩ : ∃ y : Int32, y = x10 + 1 := ⟨_, rfl⟩
              replace hf := hf x36 ex36
              refine lv_iinc (v := x36) (lv' := [(6, .int x36), (0, .ref v0), (1, .ref v1), (2, .int v2), (3, .int y2), (4, .int x33), (5, .int x34)]) hx hb dX2_run_140 hl (k := 6) rfl (by rw [ex36]; rfl) (by decide) rfl (fun ls hl => ?_)
              refine lv_goto (tgt := 59) hx hb dX2_run_143 (by decide) ?_
              exact ih59 _ _ _ _ _ _ _ (lv_sub hl [1, 2, 3, 4, 5, 6, 0] rfl) hW hS hf
            have j134 : ∀ (M37 : Mm) (H : Heap) (locs : List Loc) (ls : Array Slot), lv_has ls 8 [(0, .ref v0), (1, .ref v1), (2, .int v2), (3, .int y2), (4, .int x33), (5, .int x9), (6, .int x10), (7, .int r26)] → Wd D cy A Y M37 H → va_S A s.heap H locs → f_X2_run_134 Y v0 x9 x10 (LOOP4 (L_X2_run_59 Y v0 v1 v2 Kn y2) n59) r26 x33 M37 → W p l e rm_X2_run s m args below meth c H locs 0 0 (MQ below (va_Qi Kn (BG D cy A Y) A) args s 0 0 A) (F0 m 134 ls []) := by
              intro M37 H locs ls hl hW hS hf
              unfold f_X2_run_134 at hf
              refine lv_aload_n hx hb dX2_run_134 rfl (lv_at hl 0 rfl) ?_
              refine lv_iload hx hb dX2_run_135 (lv_at hl 7 rfl) ?_
              refine gm_cv (va_runV (As := [.int r26]) (rest := []) ⟨hx, hb, hml, hown, hts⟩ (m_X2_keepStaged l D cy tq _ Y _ _ _ _) (cwV 1 hts (good_V kw_1115 kw_1116 kw_1811 kw_10 kw_1117) rfl rfl rfl (by decide +kernel) ⟨Nat.le_of_ble_eq_true rfl, Nat.le_of_ble_eq_true rfl⟩) (gm_preV hK hW hC hS hA k5 (by decide) (q := (RX2, TX2, 13)) rfl rfl hf) rfl rfl hl.1 rfl (lv_room (Nat.le_of_ble_eq_true rfl)) dX2_run_137 ⟨Nat.le_of_ble_eq_true rfl, Nat.le_of_ble_eq_true rfl⟩) hW hS hA (fun M38 H locs hW hS hf => ?_)
              exact j140 _ _ _ _ _ (lv_sub hl [0, 1, 2, 3, 4, 5, 6] rfl) hW hS hf
            refine lv_if_ne (tgt := 134) hx hb dX2_run_107 (by decide) (fun c39 => ?_) (fun c39 => ?_)
            · replace hf := hf.1 c39
              exact j134 _ _ _ _ (lv_sub hl [2, 3, 4, 5, 0, 6, 7, 1] rfl) hW hS hf
            · replace hf := hf.2 c39
              refine lv_aload_n hx hb dX2_run_110 rfl (lv_at hl 2 rfl) ?_
              obtain ⟨b40, hb40, hf⟩ := hf
              refine gm_getR (C := RX2) (T := TX2) (N := 13) (j := 0) hx hb hts inT_2 hown hK hW k5 (by decide) rfl (by decide) rfl (hts _ kw_239) rfl dX2_run_111 hb40 ?_
              refine lv_aload_n hx hb dX2_run_114 rfl (lv_at hl 3 rfl) ?_
              refine lv_aload_n hx hb dX2_run_115 rfl (lv_at hl 3 rfl) ?_
              obtain ⟨b41, hb41, hf⟩ := hf
              refine gm_getR (C := RX8) (T := TX8) (N := 9) (j := 8) hx hb hts inT_8 hown hK hW k1 (by decide) rfl (by decide) rfl (hts _ kw_196) rfl dX2_run_116 hb41 ?_
              refine lv_iload hx hb dX2_run_119 (lv_at hl 7 rfl) ?_
              obtain ⟨k42, hf⟩ := hf
              obtain ⟨h43, hf⟩ := hf
              refine gm_iald hx hb hK hW k42 h43 dX2_run_121 ?_
              obtain ⟨k46, hf⟩ := hf
              refine gm_ci (va_runV (As := [.ref v1, .int (mI M31 b41 x10.toNatClampNeg)]) (rest := []) ⟨hx, hb, hml, hown, hts⟩ (m_X9_isKnown l D cy tq _ Y _ _ _ _ _) (cwV 2 hts (good_V kw_1111 kw_1112 kw_1113 kw_8 kw_1114) rfl rfl rfl (by decide +kernel) ⟨Nat.le_of_ble_eq_true rfl, Nat.le_of_ble_eq_true rfl⟩) (gm_preV hK hW hC hS hA k46 (by decide) (q := (RX9, TX9, 7)) rfl rfl hf) rfl rfl hl.1 rfl (lv_room (Nat.le_of_ble_eq_true rfl)) dX2_run_122 ⟨Nat.le_of_ble_eq_true rfl, Nat.le_of_ble_eq_true rfl⟩) hW hS hA (fun r45 M44 H locs hW hS hf => ?_)
              refine lv_if_ne (tgt := 134) hx hb dX2_run_125 (by decide) (fun c47 => ?_) (fun c47 => ?_)
              · replace hf := hf.1 c47
                exact j134 _ _ _ _ (lv_sub hl [2, 3, 4, 5, 0, 6, 7, 1] rfl) hW hS hf
              · replace hf := hf.2 c47
                obtain ⟨x48, ex48⟩ : ∃ y : Int32, y = x9 + 1 := ⟨_, rfl⟩
                replace hf := hf x48 ex48
                refine lv_iinc (v := x48) (lv' := [(5, .int x48), (4, .int x33), (7, .int r26), (0, .ref v0), (1, .ref v1), (2, .int v2), (3, .int y2), (6, .int x10)]) hx hb dX2_run_128 hl (k := 6) rfl (by rw [ex48]; rfl) (by decide) rfl (fun ls hl => ?_)
                refine lv_goto (tgt := 140) hx hb dX2_run_131 (by decide) ?_
                exact j140 _ _ _ _ _ (lv_sub hl [3, 4, 5, 6, 1, 0, 7] rfl) hW hS hf
      exact lp59 n59 _ _ _ _ _ _ _ (lv_sub hl [4, 5, 6, 3, 2, 1, 0] rfl) hW hS hf
    · replace hf := hf.2 c3
      refine lv_iconst (v := 0) hx hb dX2_run_33 (by decide +kernel) ?_
      exact gm_iret hx hb hr hlocks hW hS hf dX2_run_34
  refine lv_icmp_ge (tgt := 12) hx hb dX2_run_5 (by decide) (fun c49 => ?_) (fun c49 => ?_)
  · replace hf := hf.1 c49
    refine lv_aload_n hx hb dX2_run_12 rfl (lv_at hl 1 rfl) ?_
    refine gm_getI (C := RX8) (T := TX8) (N := 9) (j := 7) hx hb hts inT_8 hown hK hW k1 (by decide) rfl (by decide) rfl (hts _ kw_190) rfl dX2_run_13 ?_
    refine lv_aload_n hx hb dX2_run_16 rfl (lv_at hl 1 rfl) ?_
    obtain ⟨b50, hb50, hf⟩ := hf
    refine gm_getR (C := RX8) (T := TX8) (N := 9) (j := 6) hx hb hts inT_8 hown hK hW k1 (by decide) rfl (by decide) rfl (hts _ kw_188) rfl dX2_run_17 hb50 ?_
    refine lv_aload_n hx hb dX2_run_20 rfl (lv_at hl 1 rfl) ?_
    refine gm_getI (C := RX8) (T := TX8) (N := 9) (j := 3) hx hb hts inT_8 hown hK hW k1 (by decide) rfl (by decide) rfl (hts _ kw_178) rfl dX2_run_21 ?_
    refine lv_iconst (v := 1) hx hb dX2_run_24 (by decide +kernel) ?_
    refine lv_isub hx hb dX2_run_25 ?_
    obtain ⟨k51, hf⟩ := hf
    obtain ⟨h52, hf⟩ := hf
    refine gm_iald hx hb hK hW k51 h52 dX2_run_26 ?_
    refine lv_isub hx hb dX2_run_27 ?_
    exact j28 _ _ _ _ (lv_sub hl [0, 1, 2] rfl) hW hS hf
  · replace hf := hf.2 c49
    refine lv_iconst (v := 0) hx hb dX2_run_8 (by decide +kernel) ?_
    refine lv_goto (tgt := 28) hx hb dX2_run_9 (by decide) ?_
    exact j28 _ _ _ _ (lv_sub hl [0, 1, 2] rfl) hW hS hf

abbrev rm_X7_init : Room := { frames := 2, cells := 7, slots := 182, locals := 80 }
def f_X7_init (Y : Ly) (v0 : Nat) (v1 : Nat) (M : Mm) (Kn : Ly → Mm → Prop) : Prop :=
  ∀ q1 : Nat, yK Y q1 = 0 → ∀ Y2 : Ly, Y2 = yNew Y q1 101 8 → ∀ M3 : Mm, M3 = mZ M q1 → (yK Y2 v0 = 7 ∧ (∀ M5 : Mm, M5 = sR M3 v0 (m1 (mR M3 v0) 1 (some q1)) → (∀ q6 : Nat, yK Y2 q6 = 0 → ∀ Y7 : Ly, Y7 = yNew Y2 q6 101 8 → ∀ M8 : Mm, M8 = mZ M5 q6 → (yK Y7 v0 = 7 ∧ (∀ M10 : Mm, M10 = sR M8 v0 (m1 (mR M8 v0) 2 (some q6)) → (∀ q11 : Nat, yK Y7 q11 = 0 → ∀ Y12 : Ly, Y12 = yNew Y7 q11 101 8 → ∀ M13 : Mm, M13 = mZ M10 q11 → (yK Y12 v0 = 7 ∧ (∀ M15 : Mm, M15 = sR M13 v0 (m1 (mR M13 v0) 3 (some q11)) → (∀ q16 : Nat, yK Y12 q16 = 0 → ∀ Y17 : Ly, Y17 = yNew Y12 q16 101 8 → ∀ M18 : Mm, M18 = mZ M15 q16 → (yK Y17 v0 = 7 ∧ (∀ M20 : Mm, M20 = sR M18 v0 (m1 (mR M18 v0) 4 (some q16)) → (∀ q21 : Nat, yK Y17 q21 = 0 → ∀ Y22 : Ly, Y22 = yNew Y17 q21 101 8 → ∀ M23 : Mm, M23 = mZ M20 q21 → (yK Y22 v0 = 7 ∧ (∀ M25 : Mm, M25 = sR M23 v0 (m1 (mR M23 v0) 5 (some q21)) → (∀ q26 : Nat, yK Y22 q26 = 0 → ∀ Y27 : Ly, Y27 = yNew Y22 q26 101 64 → ∀ M28 : Mm, M28 = mZ M25 q26 → (yK Y27 v0 = 7 ∧ (∀ M30 : Mm, M30 = sR M28 v0 (m1 (mR M28 v0) 6 (some q26)) → (∀ q31 : Nat, yK Y27 q31 = 0 → ∀ Y32 : Ly, Y32 = yNew Y27 q31 100 78 → ∀ M33 : Mm, M33 = mZ M30 q31 → (yK Y32 v0 = 7 ∧ (∀ M35 : Mm, M35 = sR M33 v0 (m1 (mR M33 v0) 8 (some q31)) → (∀ M36 : Mm, M36 = sR M35 v0 (m1 (mR M35 v0) 7 (some v1)) → (Kn Y32 M36))))))))))))))))))))))
set_option maxHeartbeats 4000000 in
set_option maxRecDepth 100000 in
theorem m_X7_init (l : Launch) (D : va_G) (cy : Cy) (tq sz : Nat) (Y : Ly) (v0 : Nat) (v1 : Nat) (M : Mm) (Kn : Ly → Mm → Prop) : Met l yX7_init (Cond.code yX7_init cX7_init 2 none :: TT) rm_X7_init (PcG D cy tq [.ref v0, .ref v1] sz Y M (f_X7_init Y v0 v1 M Kn)) (QA D cy (Am Y sz) Kn) 7 182 (Am Y sz) := by
  refine Met.ofW (cc := cX7_init) (maxL := 2) (ret := none) (by decide) rfl ?_
  intro p e s m args below meth c s₁ B hml hv
  obtain ⟨hargs, hsz, hW, hK, hC, hf⟩ := hv
  subst hsz
  have hx := B.exec
  have hb := B.bytes
  have hr := B.returns
  have hts : ∀ w ∈ TT, w.before args s = true := fun w h => atoms_spec (ws := Cond.code yX7_init cX7_init 2 none :: TT) B.pre w (List.mem_cons_of_mem _ h)
  have hown : s.vm.findClass RX7 = some m.cls := findClass_of_methodNamed B.named
  have hlocks := B.notSynchronized
  have hin : meth.name = "<init>" := (name_of_methodNamed B.named B.method).1
  replace hW := Wd_self (sz := s.heap.size) hW
  generalize hAe : Am Y s.heap.size = A at hW hC ⊢
  have hA : ∀ q : Nat, s.heap.size ≤ q → A q := fun q h => by rw [← hAe]; exact Or.inr h
  clear hAe
  have hS : va_S A s.heap s.heap [] := va_S.rf
  obtain ⟨ls, hE, hl⟩ := gm_entry m [.ref v0, .ref v1] (n := 2) hargs (Nat.le_of_ble_eq_true rfl)
  rw [hE]
  have hl : lv_has ls 2 [(0, .ref v0), (1, .ref v1)] := hl
  show W p l e rm_X7_init s m args below meth c s.heap [] 0 0 (MQ below (QA D cy A Kn) args s 7 182 A) (F0 m 0 ls [])
  unfold f_X7_init at hf
  refine lv_aload_n hx hb dX7_init_0 rfl (lv_at hl 0 rfl) ?_
  refine W.objInit hx hb hown (hts _ kw_270) (hts _ kw_36) (hts _ kw_37) rfl (by rw [hml]; exact hl.1) rfl dX7_init_1 (Nat.le_of_ble_eq_true rfl) (Nat.le_of_ble_eq_true rfl) ?_
  refine W.eq (g2 := F0 m 4 ls []) rfl ?_
  refine lv_aload_n hx hb dX7_init_4 rfl (lv_at hl 0 rfl) ?_
  refine lv_bipush (v := 8) hx hb dX7_init_5 (by decide +kernel) ?_
  refine gm_newi hx hb (hts _ kw_129) hK hW hS hA (n := 8) 8 (by decide +kernel) (by decide +kernel) (Nat.le_refl _) (by decide) (by show _ ≤ 7; omega) (by show _ ≤ 182; omega) dX7_init_7 (fun q1 H Y2 M3 h0q1 eY2 eM3 hW hS => ?_)
  replace hf := hf q1 h0q1 Y2 eY2 M3 eM3
  obtain ⟨k4, hf⟩ := hf
  refine gm_putFR (C := RX7) (T := TX7) (N := 9) (j := 1) hx hb hts inT_7 tyX7 tyX7_ok nmX7 hown hK hW hS k4 (by decide) rfl (by decide) rfl (hts _ kw_273) rfl rfl hin rfl rfl rfl dX7_init_9 (fun H locs M5 eM5 hW hS => ?_)
  replace hf := hf M5 eM5
  refine lv_aload_n hx hb dX7_init_12 rfl (lv_at hl 0 rfl) ?_
  refine lv_bipush (v := 8) hx hb dX7_init_13 (by decide +kernel) ?_
  refine gm_newi hx hb (hts _ kw_129) hK hW hS hA (n := 8) 8 (by decide +kernel) (by decide +kernel) (Nat.le_refl _) (by decide) (by show _ ≤ 7; omega) (by show _ ≤ 182; omega) dX7_init_15 (fun q6 H Y7 M8 h0q6 eY7 eM8 hW hS => ?_)
  replace hf := hf q6 h0q6 Y7 eY7 M8 eM8
  obtain ⟨k9, hf⟩ := hf
  refine gm_putFR (C := RX7) (T := TX7) (N := 9) (j := 2) hx hb hts inT_7 tyX7 tyX7_ok nmX7 hown hK hW hS k9 (by decide) rfl (by decide) rfl (hts _ kw_275) rfl rfl hin rfl rfl rfl dX7_init_17 (fun H locs M10 eM10 hW hS => ?_)
  replace hf := hf M10 eM10
  refine lv_aload_n hx hb dX7_init_20 rfl (lv_at hl 0 rfl) ?_
  refine lv_bipush (v := 8) hx hb dX7_init_21 (by decide +kernel) ?_
  refine gm_newi hx hb (hts _ kw_129) hK hW hS hA (n := 8) 8 (by decide +kernel) (by decide +kernel) (Nat.le_refl _) (by decide) (by show _ ≤ 7; omega) (by show _ ≤ 182; omega) dX7_init_23 (fun q11 H Y12 M13 h0q11 eY12 eM13 hW hS => ?_)
  replace hf := hf q11 h0q11 Y12 eY12 M13 eM13
  obtain ⟨k14, hf⟩ := hf
  refine gm_putFR (C := RX7) (T := TX7) (N := 9) (j := 3) hx hb hts inT_7 tyX7 tyX7_ok nmX7 hown hK hW hS k14 (by decide) rfl (by decide) rfl (hts _ kw_277) rfl rfl hin rfl rfl rfl dX7_init_25 (fun H locs M15 eM15 hW hS => ?_)
  replace hf := hf M15 eM15
  refine lv_aload_n hx hb dX7_init_28 rfl (lv_at hl 0 rfl) ?_
  refine lv_bipush (v := 8) hx hb dX7_init_29 (by decide +kernel) ?_
  refine gm_newi hx hb (hts _ kw_129) hK hW hS hA (n := 8) 8 (by decide +kernel) (by decide +kernel) (Nat.le_refl _) (by decide) (by show _ ≤ 7; omega) (by show _ ≤ 182; omega) dX7_init_31 (fun q16 H Y17 M18 h0q16 eY17 eM18 hW hS => ?_)
  replace hf := hf q16 h0q16 Y17 eY17 M18 eM18
  obtain ⟨k19, hf⟩ := hf
  refine gm_putFR (C := RX7) (T := TX7) (N := 9) (j := 4) hx hb hts inT_7 tyX7 tyX7_ok nmX7 hown hK hW hS k19 (by decide) rfl (by decide) rfl (hts _ kw_279) rfl rfl hin rfl rfl rfl dX7_init_33 (fun H locs M20 eM20 hW hS => ?_)
  replace hf := hf M20 eM20
  refine lv_aload_n hx hb dX7_init_36 rfl (lv_at hl 0 rfl) ?_
  refine lv_bipush (v := 8) hx hb dX7_init_37 (by decide +kernel) ?_
  refine gm_newi hx hb (hts _ kw_129) hK hW hS hA (n := 8) 8 (by decide +kernel) (by decide +kernel) (Nat.le_refl _) (by decide) (by show _ ≤ 7; omega) (by show _ ≤ 182; omega) dX7_init_39 (fun q21 H Y22 M23 h0q21 eY22 eM23 hW hS => ?_)
  replace hf := hf q21 h0q21 Y22 eY22 M23 eM23
  obtain ⟨k24, hf⟩ := hf
  refine gm_putFR (C := RX7) (T := TX7) (N := 9) (j := 5) hx hb hts inT_7 tyX7 tyX7_ok nmX7 hown hK hW hS k24 (by decide) rfl (by decide) rfl (hts _ kw_281) rfl rfl hin rfl rfl rfl dX7_init_41 (fun H locs M25 eM25 hW hS => ?_)
  replace hf := hf M25 eM25
  refine lv_aload_n hx hb dX7_init_44 rfl (lv_at hl 0 rfl) ?_
  refine lv_bipush (v := 64) hx hb dX7_init_45 (by decide +kernel) ?_
  refine gm_newi hx hb (hts _ kw_129) hK hW hS hA (n := 64) 64 (by decide +kernel) (by decide +kernel) (Nat.le_refl _) (by decide) (by show _ ≤ 7; omega) (by show _ ≤ 182; omega) dX7_init_47 (fun q26 H Y27 M28 h0q26 eY27 eM28 hW hS => ?_)
  replace hf := hf q26 h0q26 Y27 eY27 M28 eM28
  obtain ⟨k29, hf⟩ := hf
  refine gm_putFR (C := RX7) (T := TX7) (N := 9) (j := 6) hx hb hts inT_7 tyX7 tyX7_ok nmX7 hown hK hW hS k29 (by decide) rfl (by decide) rfl (hts _ kw_282) rfl rfl hin rfl rfl rfl dX7_init_49 (fun H locs M30 eM30 hW hS => ?_)
  replace hf := hf M30 eM30
  refine lv_aload_n hx hb dX7_init_52 rfl (lv_at hl 0 rfl) ?_
  refine lv_bipush (v := 78) hx hb dX7_init_53 (by decide +kernel) ?_
  refine gm_newb hx hb (hts _ kw_55) hK hW hS hA (n := 78) 78 (by decide +kernel) (by decide +kernel) (Nat.le_refl _) (by decide) (by show _ ≤ 7; omega) (by show _ ≤ 182; omega) dX7_init_55 (fun q31 H Y32 M33 h0q31 eY32 eM33 hW hS => ?_)
  replace hf := hf q31 h0q31 Y32 eY32 M33 eM33
  obtain ⟨k34, hf⟩ := hf
  refine gm_putFR (C := RX7) (T := TX7) (N := 9) (j := 8) hx hb hts inT_7 tyX7 tyX7_ok nmX7 hown hK hW hS k34 (by decide) rfl (by decide) rfl (hts _ kw_284) rfl rfl hin rfl rfl rfl dX7_init_57 (fun H locs M35 eM35 hW hS => ?_)
  replace hf := hf M35 eM35
  refine lv_aload_n hx hb dX7_init_60 rfl (lv_at hl 0 rfl) ?_
  refine lv_aload_n hx hb dX7_init_61 rfl (lv_at hl 1 rfl) ?_
  refine gm_putFR (C := RX7) (T := TX7) (N := 9) (j := 7) hx hb hts inT_7 tyX7 tyX7_ok nmX7 hown hK hW hS k34 (by decide) rfl (by decide) rfl (hts _ kw_283) rfl rfl hin rfl rfl rfl dX7_init_62 (fun H locs M36 eM36 hW hS => ?_)
  replace hf := hf M36 eM36
  refine W.widen (k := 7) (n := 182) (by omega) (by omega) ?_
  exact gm_vretA hx hb hr hlocks hW hS hf dX7_init_65

abbrev rm_X7_latestNote : Room := { frames := 4, cells := 0, slots := 0, locals := 128 }
def f_X7_latestNote_85 (Y : Ly) (x13 : Int32) (again28 : Int32 → Prop) : Prop :=
  ∀ x21 : Int32, x21 = x13 + (-1) → (again28 x21)
def L_X7_latestNote_28 (Y : Ly) (v1 : Int32) (v2 : Int32) (Kn : Int64 → Mm → Prop) (M3 : Mm) (r4 : Nat) (b10 : Nat) (x13 : Int32) (again28 : Int32 → Prop) : Prop :=
  (x13 < 0 → (Kn (-1) M3)) ∧ (¬ (x13 < 0) → (∃ b15 : Nat, mR M3 r4 8 = some b15 ∧ (yK Y b15 = 101 ∧ (vp_in x13 (yN Y b15) ∧ (∀ x18 : Int32, x18 = (mI M3 b15 x13.toNatClampNeg) + 66 → (yK Y b10 = 100 ∧ (vp_in x18 (yN Y b10) ∧ ((¬ (mI M3 b10 x18.toNatClampNeg) = v1.toInt8.toInt32 → (f_X7_latestNote_85 Y x13 again28)) ∧ ((mI M3 b10 x18.toNatClampNeg) = v1.toInt8.toInt32 → (vp_in (x18 + 1) (yN Y b10) ∧ ((¬ (mI M3 b10 (x18 + 1).toNatClampNeg) = v2.toInt8.toInt32 → (f_X7_latestNote_85 Y x13 again28)) ∧ ((mI M3 b10 (x18 + 1).toNatClampNeg) = v2.toInt8.toInt32 → (∃ b25 : Nat, mR M3 r4 8 = some b25 ∧ (yK Y b25 = 101 ∧ (vp_in x13 (yN Y b25) ∧ (f_X1_signed Y b10 ((mI M3 b25 x13.toNatClampNeg) + 69) 8 M3 (fun r29 M28 => (Kn r29 M28))))))))))))))))))
def f_X7_latestNote (Y : Ly) (v0 : Nat) (v1 : Int32) (v2 : Int32) (M : Mm) (Kn : Int64 → Mm → Prop) : Prop :=
  yK Y v0 = 7 ∧ (∃ b2 : Nat, mR M v0 7 = some b2 ∧ (yK Y b2 = 9 ∧ (f_X9_own Y b2 M (fun r4 M3 => (∃ b6 : Nat, mR M3 v0 7 = some b6 ∧ (yK Y b6 = 9 ∧ (∃ b8 : Nat, mR M3 b6 0 = some b8 ∧ (yK Y b8 = 3 ∧ (∃ b10 : Nat, mR M3 b8 0 = some b10 ∧ (yK Y r4 = 8 ∧ (∀ x12 : Int32, x12 = (mI M3 r4 7) - 1 → (∃ n, LOOP1 (L_X7_latestNote_28 Y v1 v2 Kn M3 r4 b10) n x12))))))))))))
set_option maxHeartbeats 4000000 in
set_option maxRecDepth 100000 in
theorem m_X7_latestNote (l : Launch) (D : va_G) (cy : Cy) (tq sz : Nat) (Y : Ly) (v0 : Nat) (v1 : Int32) (v2 : Int32) (M : Mm) (Kn : Int64 → Mm → Prop) : Met l yX7_latestNote (Cond.code yX7_latestNote cX7_latestNote 7 (some .long) :: TT) rm_X7_latestNote (PcG D cy tq [.ref v0, .int v1, .int v2] sz Y M (f_X7_latestNote Y v0 v1 v2 M Kn)) (va_Ql Kn (BG D cy (Am Y sz) Y) (Am Y sz)) 0 0 (Am Y sz) := by
  refine Met.ofW (cc := cX7_latestNote) (maxL := 7) (ret := (some .long)) (by decide) rfl ?_
  intro p e s m args below meth c s₁ B hml hv
  obtain ⟨hargs, hsz, hW, hK, hC, hf⟩ := hv
  subst hsz
  have hx := B.exec
  have hb := B.bytes
  have hr := B.returns
  have hts : ∀ w ∈ TT, w.before args s = true := fun w h => atoms_spec (ws := Cond.code yX7_latestNote cX7_latestNote 7 (some .long) :: TT) B.pre w (List.mem_cons_of_mem _ h)
  have hown : s.vm.findClass RX7 = some m.cls := findClass_of_methodNamed B.named
  have hlocks := B.notSynchronized
  replace hW := Wd_self (sz := s.heap.size) hW
  generalize hAe : Am Y s.heap.size = A at hW hC ⊢
  have hA : ∀ q : Nat, s.heap.size ≤ q → A q := fun q h => by rw [← hAe]; exact Or.inr h
  clear hAe
  have hS : va_S A s.heap s.heap [] := va_S.rf
  obtain ⟨ls, hE, hl⟩ := gm_entry m [.ref v0, .int v1, .int v2] (n := 7) hargs (Nat.le_of_ble_eq_true rfl)
  rw [hE]
  have hl : lv_has ls 7 [(0, .ref v0), (1, .int v1), (2, .int v2)] := hl
  show W p l e rm_X7_latestNote s m args below meth c s.heap [] 0 0 (MQ below (va_Ql Kn (BG D cy A Y) A) args s 0 0 A) (F0 m 0 ls [])
  unfold f_X7_latestNote at hf
  refine lv_aload_n hx hb dX7_latestNote_0 rfl (lv_at hl 0 rfl) ?_
  obtain ⟨k1, hf⟩ := hf
  obtain ⟨b2, hb2, hf⟩ := hf
  refine gm_getR (C := RX7) (T := TX7) (N := 9) (j := 7) hx hb hts inT_7 hown hK hW k1 (by decide) rfl (by decide) rfl (hts _ kw_283) rfl dX7_latestNote_1 hb2 ?_
  obtain ⟨k5, hf⟩ := hf
  refine gm_cr (va_runV (As := []) (rest := []) ⟨hx, hb, hml, hown, hts⟩ (m_X9_own l D cy tq _ Y _ _ _) (cwV 0 hts (good_V kw_374 kw_375 kw_376 kw_8 kw_377) rfl rfl rfl (by decide +kernel) ⟨Nat.le_of_ble_eq_true rfl, Nat.le_of_ble_eq_true rfl⟩) (gm_preV hK hW hC hS hA k5 (by decide) (q := (RX9, TX9, 7)) rfl rfl hf) rfl rfl hl.1 rfl (lv_room (Nat.le_of_ble_eq_true rfl)) dX7_latestNote_4 ⟨Nat.le_of_ble_eq_true rfl, Nat.le_of_ble_eq_true rfl⟩) hW hS hA (fun r4 M3 H locs hW hS hf => ?_)
  refine lv_astore_n (lv' := [(3, .ref r4), (0, .ref v0), (1, .int v1), (2, .int v2)]) hx hb dX7_latestNote_7 rfl hl (by decide) rfl (fun ls hl => ?_)
  refine lv_aload_n hx hb dX7_latestNote_8 rfl (lv_at hl 1 rfl) ?_
  obtain ⟨b6, hb6, hf⟩ := hf
  refine gm_getR (C := RX7) (T := TX7) (N := 9) (j := 7) hx hb hts inT_7 hown hK hW k1 (by decide) rfl (by decide) rfl (hts _ kw_283) rfl dX7_latestNote_9 hb6 ?_
  obtain ⟨k7, hf⟩ := hf
  obtain ⟨b8, hb8, hf⟩ := hf
  refine gm_getR (C := RX9) (T := TX9) (N := 7) (j := 0) hx hb hts inT_9 hown hK hW k7 (by decide) rfl (by decide) rfl (hts _ kw_215) rfl dX7_latestNote_12 hb8 ?_
  obtain ⟨k9, hf⟩ := hf
  obtain ⟨b10, hb10, hf⟩ := hf
  refine gm_getR (C := RX3) (T := TX3) (N := 4) (j := 0) hx hb hts inT_3 hown hK hW k9 (by decide) rfl (by decide) rfl (hts _ kw_146) rfl dX7_latestNote_15 hb10 ?_
  refine lv_astore (lv' := [(4, .ref b10), (3, .ref r4), (0, .ref v0), (1, .int v1), (2, .int v2)]) hx hb dX7_latestNote_18 hl (by decide) rfl (fun ls hl => ?_)
  refine lv_aload_n hx hb dX7_latestNote_20 rfl (lv_at hl 1 rfl) ?_
  obtain ⟨k11, hf⟩ := hf
  refine gm_getI (C := RX8) (T := TX8) (N := 9) (j := 7) hx hb hts inT_8 hown hK hW k11 (by decide) rfl (by decide) rfl (hts _ kw_194) rfl dX7_latestNote_21 ?_
  refine lv_iconst (v := 1) hx hb dX7_latestNote_24 (by decide +kernel) ?_
  refine lv_isub hx hb dX7_latestNote_25 ?_
  refine lv_topi (fun x12 ex12 => ?_)
  replace hf := hf x12 ex12
  refine lv_istore (lv' := [(5, .int x12), (4, .ref b10), (3, .ref r4), (0, .ref v0), (1, .int v1), (2, .int v2)]) hx hb dX7_latestNote_26 hl (by decide) rfl (fun ls hl => ?_)
  obtain ⟨n28, hf⟩ := hf
  have lp28 : ∀ (n28 : Nat) (x13 : Int32) (H : Heap) (locs : List Loc) (ls : Array Slot), lv_has ls 7 [(1, .int v1), (2, .int v2), (3, .ref r4), (4, .ref b10), (5, .int x13)] → Wd D cy A Y M3 H → va_S A s.heap H locs → LOOP1 (L_X7_latestNote_28 Y v1 v2 Kn M3 r4 b10) n28 x13 → W p l e rm_X7_latestNote s m args below meth c H locs 0 0 (MQ below (va_Ql Kn (BG D cy A Y) A) args s 0 0 A) (F0 m 28 ls []) := by
    intro n28
    induction n28 with
    | zero => intro x13 H locs ls hl hW hS hf; exact hf.elim
    | succ n28 ih28 =>
      intro x13 H locs ls hl hW hS hf
      replace hf : L_X7_latestNote_28 Y v1 v2 Kn M3 r4 b10 x13 (LOOP1 (L_X7_latestNote_28 Y v1 v2 Kn M3 r4 b10) n28) := hf
      unfold L_X7_latestNote_28 at hf
      refine lv_iload hx hb dX7_latestNote_28 (lv_at hl 4 rfl) ?_
      refine lv_if_lt (tgt := 91) hx hb dX7_latestNote_30 (by decide) (fun c14 => ?_) (fun c14 => ?_)
      · replace hf := hf.1 c14
        refine lv_ldc2 (v := -1) hx hb hown (hts _ kw_379) dX7_latestNote_91 ?_
        exact gm_lret hx hb hr hlocks hW hS hf dX7_latestNote_94
      · replace hf := hf.2 c14
        refine lv_aload_n hx hb dX7_latestNote_33 rfl (lv_at hl 2 rfl) ?_
        obtain ⟨b15, hb15, hf⟩ := hf
        refine gm_getR (C := RX8) (T := TX8) (N := 9) (j := 8) hx hb hts inT_8 hown hK hW k11 (by decide) rfl (by decide) rfl (hts _ kw_199) rfl dX7_latestNote_34 hb15 ?_
        refine lv_iload hx hb dX7_latestNote_37 (lv_at hl 4 rfl) ?_
        obtain ⟨k16, hf⟩ := hf
        obtain ⟨h17, hf⟩ := hf
        refine gm_iald hx hb hK hW k16 h17 dX7_latestNote_39 ?_
        refine lv_bipush (v := 66) hx hb dX7_latestNote_40 (by decide +kernel) ?_
        refine lv_iadd hx hb dX7_latestNote_42 ?_
        refine lv_topi (fun x18 ex18 => ?_)
        replace hf := hf x18 ex18
        refine lv_istore (lv' := [(6, .int x18), (1, .int v1), (2, .int v2), (3, .ref r4), (4, .ref b10), (5, .int x13)]) hx hb dX7_latestNote_43 hl (by decide) rfl (fun ls hl => ?_)
        refine lv_aload hx hb dX7_latestNote_45 (lv_at hl 4 rfl) ?_
        refine lv_iload hx hb dX7_latestNote_47 (lv_at hl 0 rfl) ?_
        obtain ⟨k19, hf⟩ := hf
        obtain ⟨h20, hf⟩ := hf
        refine gm_bald hx hb hK hW k19 h20 dX7_latestNote_49 ?_
        refine lv_iload_n hx hb dX7_latestNote_50 rfl (lv_at hl 1 rfl) ?_
        refine lv_i2b hx hb dX7_latestNote_51 rfl ?_
        have j85 : ∀ (H : Heap) (locs : List Loc) (ls : Array Slot), lv_has ls 7 [(1, .int v1), (2, .int v2), (3, .ref r4), (4, .ref b10), (5, .int x13)] → Wd D cy A Y M3 H → va_S A s.heap H locs → f_X7_latestNote_85 Y x13 (LOOP1 (L_X7_latestNote_28 Y v1 v2 Kn M3 r4 b10) n28)  → W p l e rm_X7_latestNote s m args below meth c H locs 0 0 (MQ below (va_Ql Kn (BG D cy A Y) A) args s 0 0 A) (F0 m 85 ls []) := by
          intro  H locs ls hl hW hS hf
          unfold f_X7_latestNote_85 at hf
          obtain ⟨x21, ex21⟩ : ∃ y : Int32, y = x13 + (-1) := ⟨_, rfl⟩
          replace hf := hf x21 ex21
          refine lv_iinc (v := x21) (lv' := [(5, .int x21), (1, .int v1), (2, .int v2), (3, .ref r4), (4, .ref b10)]) hx hb dX7_latestNote_85 hl (k := 4) rfl (by rw [ex21]; rfl) (by decide) rfl (fun ls hl => ?_)
          refine lv_goto (tgt := 28) hx hb dX7_latestNote_88 (by decide) ?_
          exact ih28 _ _ _ _ (lv_sub hl [1, 2, 3, 4, 0] rfl) hW hS hf
        refine lv_icmp_ne (tgt := 85) hx hb dX7_latestNote_52 (by decide) (fun c22 => ?_) (fun c22 => ?_)
        · replace hf := hf.1 c22
          exact j85  _ _ _ (lv_sub hl [1, 2, 3, 4, 5] rfl) hW hS hf
        · replace hf := hf.2 c22
          refine lv_aload hx hb dX7_latestNote_55 (lv_at hl 4 rfl) ?_
          refine lv_iload hx hb dX7_latestNote_57 (lv_at hl 0 rfl) ?_
          refine lv_iconst (v := 1) hx hb dX7_latestNote_59 (by decide +kernel) ?_
          refine lv_iadd hx hb dX7_latestNote_60 ?_
          obtain ⟨h23, hf⟩ := hf
          refine gm_bald hx hb hK hW k19 h23 dX7_latestNote_61 ?_
          refine lv_iload_n hx hb dX7_latestNote_62 rfl (lv_at hl 2 rfl) ?_
          refine lv_i2b hx hb dX7_latestNote_63 rfl ?_
          refine lv_icmp_ne (tgt := 85) hx hb dX7_latestNote_64 (by decide) (fun c24 => ?_) (fun c24 => ?_)
          · replace hf := hf.1 c24
            exact j85  _ _ _ (lv_sub hl [1, 2, 3, 4, 5] rfl) hW hS hf
          · replace hf := hf.2 c24
            refine lv_aload hx hb dX7_latestNote_67 (lv_at hl 4 rfl) ?_
            refine lv_aload_n hx hb dX7_latestNote_69 rfl (lv_at hl 3 rfl) ?_
            obtain ⟨b25, hb25, hf⟩ := hf
            refine gm_getR (C := RX8) (T := TX8) (N := 9) (j := 8) hx hb hts inT_8 hown hK hW k11 (by decide) rfl (by decide) rfl (hts _ kw_199) rfl dX7_latestNote_70 hb25 ?_
            refine lv_iload hx hb dX7_latestNote_73 (lv_at hl 5 rfl) ?_
            obtain ⟨k26, hf⟩ := hf
            obtain ⟨h27, hf⟩ := hf
            refine gm_iald hx hb hK hW k26 h27 dX7_latestNote_75 ?_
            refine lv_bipush (v := 69) hx hb dX7_latestNote_76 (by decide +kernel) ?_
            refine lv_iadd hx hb dX7_latestNote_78 ?_
            refine lv_bipush (v := 8) hx hb dX7_latestNote_79 (by decide +kernel) ?_
            refine gm_cl (va_runS (As := [.ref b10, .int ((mI M3 b25 x13.toNatClampNeg) + 69), .int 8]) (rest := []) ⟨hx, hb, hml, hown, hts⟩ (m_X1_signed l D cy tq _ Y _ _ _ _ _) (va_cwS 3 hts (good_S kw_378 kw_329 kw_17 kw_330) rfl rfl rfl (by decide +kernel) ⟨Nat.le_of_ble_eq_true rfl, Nat.le_of_ble_eq_true rfl⟩) (gm_preS hK hW hC hS hA hf) rfl rfl hl.1 rfl (lv_room (Nat.le_of_ble_eq_true rfl)) dX7_latestNote_81 ⟨Nat.le_of_ble_eq_true rfl, Nat.le_of_ble_eq_true rfl⟩) hW hS hA (fun r29 M28 H locs hW hS hf => ?_)
            exact gm_lret hx hb hr hlocks hW hS hf dX7_latestNote_84
  exact lp28 n28 _ _ _ _ (lv_sub hl [4, 5, 2, 1, 0] rfl) hW hS hf

abbrev rm_X7_makeEmpty : Room := { frames := 2, cells := 0, slots := 0, locals := 80 }
def f_X7_makeEmpty (Y : Ly) (v0 : Nat) (v1 : Int32) (M : Mm) (Kn : Mm → Prop) : Prop :=
  yK Y v0 = 7 ∧ (∃ b2 : Nat, mR M v0 2 = some b2 ∧ (yK Y b2 = 101 ∧ (vp_in v1 (yN Y b2) ∧ (∀ M5 : Mm, M5 = sI M b2 (m1 (mI M b2) v1.toNatClampNeg 0) → (∃ b6 : Nat, mR M5 v0 3 = some b6 ∧ (yK Y b6 = 101 ∧ (vp_in v1 (yN Y b6) ∧ (∀ M9 : Mm, M9 = sI M5 b6 (m1 (mI M5 b6) v1.toNatClampNeg 0) → (∃ b10 : Nat, mR M9 v0 4 = some b10 ∧ (yK Y b10 = 101 ∧ (vp_in v1 (yN Y b10) ∧ (∀ M13 : Mm, M13 = sI M9 b10 (m1 (mI M9 b10) v1.toNatClampNeg 0) → (Kn M13)))))))))))))
set_option maxHeartbeats 4000000 in
set_option maxRecDepth 100000 in
theorem m_X7_makeEmpty (l : Launch) (D : va_G) (cy : Cy) (tq sz : Nat) (Y : Ly) (v0 : Nat) (v1 : Int32) (M : Mm) (Kn : Mm → Prop) : Met l yX7_makeEmpty (Cond.code yX7_makeEmpty cX7_makeEmpty 2 none :: TT) rm_X7_makeEmpty (PcG D cy tq [.ref v0, .int v1] sz Y M (f_X7_makeEmpty Y v0 v1 M Kn)) (va_Qv Kn (BG D cy (Am Y sz) Y) (Am Y sz)) 0 0 (Am Y sz) := by
  refine Met.ofW (cc := cX7_makeEmpty) (maxL := 2) (ret := none) (by decide) rfl ?_
  intro p e s m args below meth c s₁ B hml hv
  obtain ⟨hargs, hsz, hW, hK, hC, hf⟩ := hv
  subst hsz
  have hx := B.exec
  have hb := B.bytes
  have hr := B.returns
  have hts : ∀ w ∈ TT, w.before args s = true := fun w h => atoms_spec (ws := Cond.code yX7_makeEmpty cX7_makeEmpty 2 none :: TT) B.pre w (List.mem_cons_of_mem _ h)
  have hown : s.vm.findClass RX7 = some m.cls := findClass_of_methodNamed B.named
  have hlocks := B.notSynchronized
  replace hW := Wd_self (sz := s.heap.size) hW
  generalize hAe : Am Y s.heap.size = A at hW hC ⊢
  have hA : ∀ q : Nat, s.heap.size ≤ q → A q := fun q h => by rw [← hAe]; exact Or.inr h
  clear hAe
  have hS : va_S A s.heap s.heap [] := va_S.rf
  obtain ⟨ls, hE, hl⟩ := gm_entry m [.ref v0, .int v1] (n := 2) hargs (Nat.le_of_ble_eq_true rfl)
  rw [hE]
  have hl : lv_has ls 2 [(0, .ref v0), (1, .int v1)] := hl
  show W p l e rm_X7_makeEmpty s m args below meth c s.heap [] 0 0 (MQ below (va_Qv Kn (BG D cy A Y) A) args s 0 0 A) (F0 m 0 ls [])
  unfold f_X7_makeEmpty at hf
  refine lv_aload_n hx hb dX7_makeEmpty_0 rfl (lv_at hl 0 rfl) ?_
  obtain ⟨k1, hf⟩ := hf
  obtain ⟨b2, hb2, hf⟩ := hf
  refine gm_getR (C := RX7) (T := TX7) (N := 9) (j := 2) hx hb hts inT_7 hown hK hW k1 (by decide) rfl (by decide) rfl (hts _ kw_275) rfl dX7_makeEmpty_1 hb2 ?_
  refine lv_iload_n hx hb dX7_makeEmpty_4 rfl (lv_at hl 1 rfl) ?_
  refine lv_iconst (v := 0) hx hb dX7_makeEmpty_5 (by decide +kernel) ?_
  obtain ⟨k3, hf⟩ := hf
  obtain ⟨h4, hf⟩ := hf
  refine gm_iast hx hb hK hW hS k3 h4 dX7_makeEmpty_6 (fun H locs M5 eM5 hW hS => ?_)
  replace hf := hf M5 eM5
  refine lv_aload_n hx hb dX7_makeEmpty_7 rfl (lv_at hl 0 rfl) ?_
  obtain ⟨b6, hb6, hf⟩ := hf
  refine gm_getR (C := RX7) (T := TX7) (N := 9) (j := 3) hx hb hts inT_7 hown hK hW k1 (by decide) rfl (by decide) rfl (hts _ kw_277) rfl dX7_makeEmpty_8 hb6 ?_
  refine lv_iload_n hx hb dX7_makeEmpty_11 rfl (lv_at hl 1 rfl) ?_
  refine lv_iconst (v := 0) hx hb dX7_makeEmpty_12 (by decide +kernel) ?_
  obtain ⟨k7, hf⟩ := hf
  obtain ⟨h8, hf⟩ := hf
  refine gm_iast hx hb hK hW hS k7 h8 dX7_makeEmpty_13 (fun H locs M9 eM9 hW hS => ?_)
  replace hf := hf M9 eM9
  refine lv_aload_n hx hb dX7_makeEmpty_14 rfl (lv_at hl 0 rfl) ?_
  obtain ⟨b10, hb10, hf⟩ := hf
  refine gm_getR (C := RX7) (T := TX7) (N := 9) (j := 4) hx hb hts inT_7 hown hK hW k1 (by decide) rfl (by decide) rfl (hts _ kw_279) rfl dX7_makeEmpty_15 hb10 ?_
  refine lv_iload_n hx hb dX7_makeEmpty_18 rfl (lv_at hl 1 rfl) ?_
  refine lv_iconst (v := 0) hx hb dX7_makeEmpty_19 (by decide +kernel) ?_
  obtain ⟨k11, hf⟩ := hf
  obtain ⟨h12, hf⟩ := hf
  refine gm_iast hx hb hK hW hS k11 h12 dX7_makeEmpty_20 (fun H locs M13 eM13 hW hS => ?_)
  replace hf := hf M13 eM13
  exact gm_vret hx hb hr hlocks hW hS hf dX7_makeEmpty_21

abbrev rm_X7_load : Room := { frames := 5, cells := 0, slots := 0, locals := 154 }
def L_X7_load_2 (Y : Ly) (v0 : Nat) (Kn : Mm → Prop) (x1 : Int32) (M2 : Mm) (again2 : Int32 → Mm → Prop) : Prop :=
  (8 ≤ x1 → (Kn M2)) ∧ (¬ (8 ≤ x1) → (yK Y v0 = 7 ∧ (f_X7_makeEmpty Y v0 x1 M2 (fun M4 => (∃ b6 : Nat, mR M4 v0 1 = some b6 ∧ (f_X7_latestNote Y v0 x1 255 M4 (fun r8 M7 => (yK Y b6 = 101 ∧ (vp_in x1 (yN Y b6) ∧ (∀ M11 : Mm, M11 = sI M7 b6 (m1 (mI M7 b6) x1.toNatClampNeg ((if r8 < 0 then 0 else r8).toInt32)) → (∀ x12 : Int32, x12 = x1 + 1 → (again2 x12 M11))))))))))))
def f_X7_load (Y : Ly) (v0 : Nat) (M : Mm) (Kn : Mm → Prop) : Prop :=
  ∃ n, LOOP2 (L_X7_load_2 Y v0 Kn) n 0 M
set_option maxHeartbeats 4000000 in
set_option maxRecDepth 100000 in
theorem m_X7_load (l : Launch) (D : va_G) (cy : Cy) (tq sz : Nat) (Y : Ly) (v0 : Nat) (M : Mm) (Kn : Mm → Prop) : Met l yX7_load (Cond.code yX7_load cX7_load 2 none :: TT) rm_X7_load (PcG D cy tq [.ref v0] sz Y M (f_X7_load Y v0 M Kn)) (va_Qv Kn (BG D cy (Am Y sz) Y) (Am Y sz)) 0 0 (Am Y sz) := by
  refine Met.ofW (cc := cX7_load) (maxL := 2) (ret := none) (by decide) rfl ?_
  intro p e s m args below meth c s₁ B hml hv
  obtain ⟨hargs, hsz, hW, hK, hC, hf⟩ := hv
  subst hsz
  have hx := B.exec
  have hb := B.bytes
  have hr := B.returns
  have hts : ∀ w ∈ TT, w.before args s = true := fun w h => atoms_spec (ws := Cond.code yX7_load cX7_load 2 none :: TT) B.pre w (List.mem_cons_of_mem _ h)
  have hown : s.vm.findClass RX7 = some m.cls := findClass_of_methodNamed B.named
  have hlocks := B.notSynchronized
  replace hW := Wd_self (sz := s.heap.size) hW
  generalize hAe : Am Y s.heap.size = A at hW hC ⊢
  have hA : ∀ q : Nat, s.heap.size ≤ q → A q := fun q h => by rw [← hAe]; exact Or.inr h
  clear hAe
  have hS : va_S A s.heap s.heap [] := va_S.rf
  obtain ⟨ls, hE, hl⟩ := gm_entry m [.ref v0] (n := 2) hargs (Nat.le_of_ble_eq_true rfl)
  rw [hE]
  have hl : lv_has ls 2 [(0, .ref v0)] := hl
  show W p l e rm_X7_load s m args below meth c s.heap [] 0 0 (MQ below (va_Qv Kn (BG D cy A Y) A) args s 0 0 A) (F0 m 0 ls [])
  unfold f_X7_load at hf
  refine lv_iconst (v := 0) hx hb dX7_load_0 (by decide +kernel) ?_
  refine lv_istore_n (lv' := [(1, .int 0), (0, .ref v0)]) hx hb dX7_load_1 rfl hl (by decide) rfl (fun ls hl => ?_)
  obtain ⟨n2, hf⟩ := hf
  have lp2 : ∀ (n2 : Nat) (x1 : Int32) (M2 : Mm) (H : Heap) (locs : List Loc) (ls : Array Slot), lv_has ls 2 [(0, .ref v0), (1, .int x1)] → Wd D cy A Y M2 H → va_S A s.heap H locs → LOOP2 (L_X7_load_2 Y v0 Kn) n2 x1 M2 → W p l e rm_X7_load s m args below meth c H locs 0 0 (MQ below (va_Qv Kn (BG D cy A Y) A) args s 0 0 A) (F0 m 2 ls []) := by
    intro n2
    induction n2 with
    | zero => intro x1 M2 H locs ls hl hW hS hf; exact hf.elim
    | succ n2 ih2 =>
      intro x1 M2 H locs ls hl hW hS hf
      replace hf : L_X7_load_2 Y v0 Kn x1 M2 (LOOP2 (L_X7_load_2 Y v0 Kn) n2) := hf
      unfold L_X7_load_2 at hf
      refine lv_iload_n hx hb dX7_load_2 rfl (lv_at hl 1 rfl) ?_
      refine lv_bipush (v := 8) hx hb dX7_load_3 (by decide +kernel) ?_
      refine lv_icmp_ge (tgt := 38) hx hb dX7_load_5 (by decide) (fun c3 => ?_) (fun c3 => ?_)
      · replace hf := hf.1 c3
        exact gm_vret hx hb hr hlocks hW hS hf dX7_load_38
      · replace hf := hf.2 c3
        refine lv_aload_n hx hb dX7_load_8 rfl (lv_at hl 0 rfl) ?_
        refine lv_iload_n hx hb dX7_load_9 rfl (lv_at hl 1 rfl) ?_
        obtain ⟨k5, hf⟩ := hf
        refine gm_cv (va_runV (As := [.int x1]) (rest := []) ⟨hx, hb, hml, hown, hts⟩ (m_X7_makeEmpty l D cy tq _ Y _ _ _ _) (cwV 1 hts (good_V kw_367 kw_368 kw_1787 kw_11 kw_369) rfl rfl rfl (by decide +kernel) ⟨Nat.le_of_ble_eq_true rfl, Nat.le_of_ble_eq_true rfl⟩) (gm_preV hK hW hC hS hA k5 (by decide) (q := (RX7, TX7, 9)) rfl rfl hf) rfl rfl hl.1 rfl (lv_room (Nat.le_of_ble_eq_true rfl)) dX7_load_10 ⟨Nat.le_of_ble_eq_true rfl, Nat.le_of_ble_eq_true rfl⟩) hW hS hA (fun M4 H locs hW hS hf => ?_)
        refine lv_aload_n hx hb dX7_load_13 rfl (lv_at hl 0 rfl) ?_
        obtain ⟨b6, hb6, hf⟩ := hf
        refine gm_getR (C := RX7) (T := TX7) (N := 9) (j := 1) hx hb hts inT_7 hown hK hW k5 (by decide) rfl (by decide) rfl (hts _ kw_273) rfl dX7_load_14 hb6 ?_
        refine lv_iload_n hx hb dX7_load_17 rfl (lv_at hl 1 rfl) ?_
        refine lv_lconst (v := 0) hx hb dX7_load_18 (by decide) ?_
        refine lv_aload_n hx hb dX7_load_19 rfl (lv_at hl 0 rfl) ?_
        refine lv_iload_n hx hb dX7_load_20 rfl (lv_at hl 1 rfl) ?_
        refine lv_sipush (v := 255) hx hb dX7_load_21 (by decide +kernel) ?_
        refine gm_cl (va_runV (As := [.int x1, .int 255]) (rest := [.long 0, .int x1, .ref b6]) ⟨hx, hb, hml, hown, hts⟩ (m_X7_latestNote l D cy tq _ Y _ _ _ _ _) (cwV 2 hts (good_V kw_370 kw_371 kw_372 kw_11 kw_373) rfl rfl rfl (by decide +kernel) ⟨Nat.le_of_ble_eq_true rfl, Nat.le_of_ble_eq_true rfl⟩) (gm_preV hK hW hC hS hA k5 (by decide) (q := (RX7, TX7, 9)) rfl rfl hf) rfl rfl hl.1 rfl (lv_room (Nat.le_of_ble_eq_true rfl)) dX7_load_24 ⟨Nat.le_of_ble_eq_true rfl, Nat.le_of_ble_eq_true rfl⟩) hW hS hA (fun r8 M7 H locs hW hS hf => ?_)
        refine va_mmax_long hx hb (by rw [hml]; exact hl.1.symm) hown (hts _ kw_380) (hts _ kw_381) (hts _ kw_6) (hts _ kmath_maxJ) (Nat.le_of_ble_eq_true rfl) (Nat.le_of_ble_eq_true rfl) (Nat.zero_le _) (Nat.zero_le _) dX7_load_27 ?_
        refine lv_l2i hx hb dX7_load_30 rfl ?_
        obtain ⟨k9, hf⟩ := hf
        obtain ⟨h10, hf⟩ := hf
        refine gm_iast hx hb hK hW hS k9 h10 dX7_load_31 (fun H locs M11 eM11 hW hS => ?_)
        replace hf := hf M11 eM11
        obtain ⟨x12, ex12⟩ : ∃ y : Int32, y = x1 + 1 := ⟨_, rfl⟩
        replace hf := hf x12 ex12
        refine lv_iinc (v := x12) (lv' := [(1, .int x12), (0, .ref v0)]) hx hb dX7_load_32 hl (k := 1) rfl (by rw [ex12]; rfl) (by decide) rfl (fun ls hl => ?_)
        refine lv_goto (tgt := 2) hx hb dX7_load_35 (by decide) ?_
        exact ih2 _ _ _ _ _ (lv_sub hl [1, 0] rfl) hW hS hf
  exact lp2 n2 _ _ _ _ _ (lv_sub hl [1, 0] rfl) hW hS hf

abbrev rm_X7_filledNote : Room := { frames := 5, cells := 0, slots := 0, locals := 153 }
def f_X7_filledNote (Y : Ly) (v0 : Nat) (v1 : Int32) (v2 : Int32) (v3 : Int64) (M : Mm) (Kn : Nat → Mm → Prop) : Prop :=
  yK Y v0 = 7 ∧ (∃ b2 : Nat, mR M v0 8 = some b2 ∧ (f_X0_begin Y b2 0 1 ((mI M v0 0).toInt64) ((mI M v0 0).toInt64) M (fun M3 => (∃ b4 : Nat, mR M3 v0 8 = some b4 ∧ (f_X0_sign Y b4 0 (-1) (-1) (-1) M3 (fun M5 => (∃ b6 : Nat, mR M5 v0 8 = some b6 ∧ (f_X1_putVarint Y b6 61 16 M5 (fun r8 M7 => (∃ b9 : Nat, mR M7 v0 8 = some b9 ∧ (f_X1_put Y b9 r8 3 0 M7 (fun M10 => (∃ b11 : Nat, mR M10 v0 8 = some b11 ∧ (f_X1_putVarint Y b11 65 2 M10 (fun r13 M12 => (∃ b14 : Nat, mR M12 v0 8 = some b14 ∧ (yK Y b14 = 100 ∧ (vp_in 66 (yN Y b14) ∧ (∀ M17 : Mm, M17 = sI M12 b14 (m1 (mI M12 b14) (66 : Int32).toNatClampNeg v1.toInt8.toInt32.toInt8.toInt32) → (∃ b18 : Nat, mR M17 v0 8 = some b18 ∧ (yK Y b18 = 100 ∧ (vp_in 67 (yN Y b18) ∧ (∀ M21 : Mm, M21 = sI M17 b18 (m1 (mI M17 b18) (67 : Int32).toNatClampNeg v2.toInt8.toInt32.toInt8.toInt32) → (∃ b22 : Nat, mR M21 v0 8 = some b22 ∧ (f_X1_putVarint Y b22 68 8 M21 (fun r24 M23 => (∃ b25 : Nat, mR M23 v0 8 = some b25 ∧ (f_X1_put Y b25 69 8 v3 M23 (fun M26 => (∃ b27 : Nat, mR M26 v0 8 = some b27 ∧ (yK Y b27 = 100 ∧ (vp_in 77 (yN Y b27) ∧ (∀ M30 : Mm, M30 = sI M26 b27 (m1 (mI M26 b27) (77 : Int32).toNatClampNeg ((0 : Int32).toInt8.toInt32)) → (∃ b31 : Nat, mR M30 v0 8 = some b31 ∧ (f_X0_finish Y b31 0 78 M30 (fun M32 => (∃ b33 : Nat, mR M32 v0 8 = some b33 ∧ (Kn b33 M32))))))))))))))))))))))))))))))))))))))
set_option maxHeartbeats 4000000 in
set_option maxRecDepth 100000 in
theorem m_X7_filledNote (l : Launch) (D : va_G) (cy : Cy) (tq sz : Nat) (Y : Ly) (v0 : Nat) (v1 : Int32) (v2 : Int32) (v3 : Int64) (M : Mm) (Kn : Nat → Mm → Prop) : Met l yX7_filledNote (Cond.code yX7_filledNote cX7_filledNote 6 (some (.array .byte)) :: TT) rm_X7_filledNote (PcG D cy tq [.ref v0, .int v1, .int v2, .long v3] sz Y M (f_X7_filledNote Y v0 v1 v2 v3 M Kn)) (va_Qr (fun _ => True) (BR D cy (Am Y sz) Y Kn) (Am Y sz)) 0 0 (Am Y sz) := by
  refine Met.ofW (cc := cX7_filledNote) (maxL := 6) (ret := (some (.array .byte))) (by decide) rfl ?_
  intro p e s m args below meth c s₁ B hml hv
  obtain ⟨hargs, hsz, hW, hK, hC, hf⟩ := hv
  subst hsz
  have hx := B.exec
  have hb := B.bytes
  have hr := B.returns
  have hts : ∀ w ∈ TT, w.before args s = true := fun w h => atoms_spec (ws := Cond.code yX7_filledNote cX7_filledNote 6 (some (.array .byte)) :: TT) B.pre w (List.mem_cons_of_mem _ h)
  have hown : s.vm.findClass RX7 = some m.cls := findClass_of_methodNamed B.named
  have hlocks := B.notSynchronized
  replace hW := Wd_self (sz := s.heap.size) hW
  generalize hAe : Am Y s.heap.size = A at hW hC ⊢
  have hA : ∀ q : Nat, s.heap.size ≤ q → A q := fun q h => by rw [← hAe]; exact Or.inr h
  clear hAe
  have hS : va_S A s.heap s.heap [] := va_S.rf
  obtain ⟨ls, hE, hl⟩ := gm_entry m [.ref v0, .int v1, .int v2, .long v3] (n := 6) hargs (Nat.le_of_ble_eq_true rfl)
  rw [hE]
  have hl : lv_has ls 6 [(0, .ref v0), (1, .int v1), (2, .int v2), (3, .long v3)] := hl
  show W p l e rm_X7_filledNote s m args below meth c s.heap [] 0 0 (MQ below (va_Qr (fun _ => True) (BR D cy A Y Kn) A) args s 0 0 A) (F0 m 0 ls [])
  unfold f_X7_filledNote at hf
  refine lv_aload_n hx hb dX7_filledNote_0 rfl (lv_at hl 0 rfl) ?_
  obtain ⟨k1, hf⟩ := hf
  obtain ⟨b2, hb2, hf⟩ := hf
  refine gm_getR (C := RX7) (T := TX7) (N := 9) (j := 8) hx hb hts inT_7 hown hK hW k1 (by decide) rfl (by decide) rfl (hts _ kw_284) rfl dX7_filledNote_1 hb2 ?_
  refine lv_iconst (v := 0) hx hb dX7_filledNote_4 (by decide +kernel) ?_
  refine lv_iconst (v := 1) hx hb dX7_filledNote_5 (by decide +kernel) ?_
  refine lv_aload_n hx hb dX7_filledNote_6 rfl (lv_at hl 0 rfl) ?_
  refine gm_getI (C := RX7) (T := TX7) (N := 9) (j := 0) hx hb hts inT_7 hown hK hW k1 (by decide) rfl (by decide) rfl (hts _ kw_271) rfl dX7_filledNote_7 ?_
  refine lv_i2l hx hb dX7_filledNote_10 rfl ?_
  refine lv_aload_n hx hb dX7_filledNote_11 rfl (lv_at hl 0 rfl) ?_
  refine gm_getI (C := RX7) (T := TX7) (N := 9) (j := 0) hx hb hts inT_7 hown hK hW k1 (by decide) rfl (by decide) rfl (hts _ kw_271) rfl dX7_filledNote_12 ?_
  refine lv_i2l hx hb dX7_filledNote_15 rfl ?_
  refine gm_cv (va_runS (As := [.ref b2, .int 0, .int 1, .long ((mI M v0 0).toInt64), .long ((mI M v0 0).toInt64)]) (rest := []) ⟨hx, hb, hml, hown, hts⟩ (m_X0_begin l D cy tq _ Y _ _ _ _ _ _ _) (va_cwS 5 hts (good_S kw_1158 kw_536 kw_20 kw_537) rfl rfl rfl (by decide +kernel) ⟨Nat.le_of_ble_eq_true rfl, Nat.le_of_ble_eq_true rfl⟩) (gm_preS hK hW hC hS hA hf) rfl rfl hl.1 rfl (lv_room (Nat.le_of_ble_eq_true rfl)) dX7_filledNote_16 ⟨Nat.le_of_ble_eq_true rfl, Nat.le_of_ble_eq_true rfl⟩) hW hS hA (fun M3 H locs hW hS hf => ?_)
  refine lv_aload_n hx hb dX7_filledNote_19 rfl (lv_at hl 0 rfl) ?_
  obtain ⟨b4, hb4, hf⟩ := hf
  refine gm_getR (C := RX7) (T := TX7) (N := 9) (j := 8) hx hb hts inT_7 hown hK hW k1 (by decide) rfl (by decide) rfl (hts _ kw_284) rfl dX7_filledNote_20 hb4 ?_
  refine lv_iconst (v := 0) hx hb dX7_filledNote_23 (by decide +kernel) ?_
  refine lv_ldc2 (v := -1) hx hb hown (hts _ kw_379) dX7_filledNote_24 ?_
  refine lv_iconst (v := -1) hx hb dX7_filledNote_27 (by decide +kernel) ?_
  refine lv_iconst (v := -1) hx hb dX7_filledNote_28 (by decide +kernel) ?_
  refine gm_cv (va_runS (As := [.ref b4, .int 0, .long (-1), .int (-1), .int (-1)]) (rest := []) ⟨hx, hb, hml, hown, hts⟩ (m_X0_sign l D cy tq _ Y _ _ _ _ _ _ _) (va_cwS 5 hts (good_S kw_1159 kw_750 kw_20 kw_751) rfl rfl rfl (by decide +kernel) ⟨Nat.le_of_ble_eq_true rfl, Nat.le_of_ble_eq_true rfl⟩) (gm_preS hK hW hC hS hA hf) rfl rfl hl.1 rfl (lv_room (Nat.le_of_ble_eq_true rfl)) dX7_filledNote_29 ⟨Nat.le_of_ble_eq_true rfl, Nat.le_of_ble_eq_true rfl⟩) hW hS hA (fun M5 H locs hW hS hf => ?_)
  refine lv_aload_n hx hb dX7_filledNote_32 rfl (lv_at hl 0 rfl) ?_
  obtain ⟨b6, hb6, hf⟩ := hf
  refine gm_getR (C := RX7) (T := TX7) (N := 9) (j := 8) hx hb hts inT_7 hown hK hW k1 (by decide) rfl (by decide) rfl (hts _ kw_284) rfl dX7_filledNote_33 hb6 ?_
  refine lv_bipush (v := 61) hx hb dX7_filledNote_36 (by decide +kernel) ?_
  refine lv_ldc2 (v := 16) hx hb hown (hts _ kw_1160) dX7_filledNote_38 ?_
  refine gm_ci (va_runS (As := [.ref b6, .int 61, .long 16]) (rest := []) ⟨hx, hb, hml, hown, hts⟩ (m_X1_putVarint l D cy tq _ Y _ _ _ _ _) (va_cwS 3 hts (good_S kw_1161 kw_518 kw_17 kw_519) rfl rfl rfl (by decide +kernel) ⟨Nat.le_of_ble_eq_true rfl, Nat.le_of_ble_eq_true rfl⟩) (gm_preS hK hW hC hS hA hf) rfl rfl hl.1 rfl (lv_room (Nat.le_of_ble_eq_true rfl)) dX7_filledNote_41 ⟨Nat.le_of_ble_eq_true rfl, Nat.le_of_ble_eq_true rfl⟩) hW hS hA (fun r8 M7 H locs hW hS hf => ?_)
  refine lv_istore (lv' := [(5, .int r8), (0, .ref v0), (1, .int v1), (2, .int v2), (3, .long v3)]) hx hb dX7_filledNote_44 hl (by decide) rfl (fun ls hl => ?_)
  refine lv_aload_n hx hb dX7_filledNote_46 rfl (lv_at hl 1 rfl) ?_
  obtain ⟨b9, hb9, hf⟩ := hf
  refine gm_getR (C := RX7) (T := TX7) (N := 9) (j := 8) hx hb hts inT_7 hown hK hW k1 (by decide) rfl (by decide) rfl (hts _ kw_284) rfl dX7_filledNote_47 hb9 ?_
  refine lv_iload hx hb dX7_filledNote_50 (lv_at hl 0 rfl) ?_
  refine lv_iconst (v := 3) hx hb dX7_filledNote_52 (by decide +kernel) ?_
  refine lv_lconst (v := 0) hx hb dX7_filledNote_53 (by decide) ?_
  refine gm_cv (va_runS (As := [.ref b9, .int r8, .int 3, .long 0]) (rest := []) ⟨hx, hb, hml, hown, hts⟩ (m_X1_put l D cy tq _ Y _ _ _ _ _ _) (va_cwS 4 hts (good_S kw_1162 kw_450 kw_17 kw_451) rfl rfl rfl (by decide +kernel) ⟨Nat.le_of_ble_eq_true rfl, Nat.le_of_ble_eq_true rfl⟩) (gm_preS hK hW hC hS hA hf) rfl rfl hl.1 rfl (lv_room (Nat.le_of_ble_eq_true rfl)) dX7_filledNote_54 ⟨Nat.le_of_ble_eq_true rfl, Nat.le_of_ble_eq_true rfl⟩) hW hS hA (fun M10 H locs hW hS hf => ?_)
  refine lv_aload_n hx hb dX7_filledNote_57 rfl (lv_at hl 1 rfl) ?_
  obtain ⟨b11, hb11, hf⟩ := hf
  refine gm_getR (C := RX7) (T := TX7) (N := 9) (j := 8) hx hb hts inT_7 hown hK hW k1 (by decide) rfl (by decide) rfl (hts _ kw_284) rfl dX7_filledNote_58 hb11 ?_
  refine lv_bipush (v := 65) hx hb dX7_filledNote_61 (by decide +kernel) ?_
  refine lv_ldc2 (v := 2) hx hb hown (hts _ kw_1163) dX7_filledNote_63 ?_
  refine gm_ci (va_runS (As := [.ref b11, .int 65, .long 2]) (rest := []) ⟨hx, hb, hml, hown, hts⟩ (m_X1_putVarint l D cy tq _ Y _ _ _ _ _) (va_cwS 3 hts (good_S kw_1161 kw_518 kw_17 kw_519) rfl rfl rfl (by decide +kernel) ⟨Nat.le_of_ble_eq_true rfl, Nat.le_of_ble_eq_true rfl⟩) (gm_preS hK hW hC hS hA hf) rfl rfl hl.1 rfl (lv_room (Nat.le_of_ble_eq_true rfl)) dX7_filledNote_66 ⟨Nat.le_of_ble_eq_true rfl, Nat.le_of_ble_eq_true rfl⟩) hW hS hA (fun r13 M12 H locs hW hS hf => ?_)
  refine lv_pop hx hb dX7_filledNote_69 rfl ?_
  refine lv_aload_n hx hb dX7_filledNote_70 rfl (lv_at hl 1 rfl) ?_
  obtain ⟨b14, hb14, hf⟩ := hf
  refine gm_getR (C := RX7) (T := TX7) (N := 9) (j := 8) hx hb hts inT_7 hown hK hW k1 (by decide) rfl (by decide) rfl (hts _ kw_284) rfl dX7_filledNote_71 hb14 ?_
  refine lv_bipush (v := 66) hx hb dX7_filledNote_74 (by decide +kernel) ?_
  refine lv_iload_n hx hb dX7_filledNote_76 rfl (lv_at hl 2 rfl) ?_
  refine lv_i2b hx hb dX7_filledNote_77 rfl ?_
  obtain ⟨k15, hf⟩ := hf
  obtain ⟨h16, hf⟩ := hf
  refine gm_bast hx hb hK hW hS k15 h16 dX7_filledNote_78 (fun H locs M17 eM17 hW hS => ?_)
  replace hf := hf M17 eM17
  refine lv_aload_n hx hb dX7_filledNote_79 rfl (lv_at hl 1 rfl) ?_
  obtain ⟨b18, hb18, hf⟩ := hf
  refine gm_getR (C := RX7) (T := TX7) (N := 9) (j := 8) hx hb hts inT_7 hown hK hW k1 (by decide) rfl (by decide) rfl (hts _ kw_284) rfl dX7_filledNote_80 hb18 ?_
  refine lv_bipush (v := 67) hx hb dX7_filledNote_83 (by decide +kernel) ?_
  refine lv_iload_n hx hb dX7_filledNote_85 rfl (lv_at hl 3 rfl) ?_
  refine lv_i2b hx hb dX7_filledNote_86 rfl ?_
  obtain ⟨k19, hf⟩ := hf
  obtain ⟨h20, hf⟩ := hf
  refine gm_bast hx hb hK hW hS k19 h20 dX7_filledNote_87 (fun H locs M21 eM21 hW hS => ?_)
  replace hf := hf M21 eM21
  refine lv_aload_n hx hb dX7_filledNote_88 rfl (lv_at hl 1 rfl) ?_
  obtain ⟨b22, hb22, hf⟩ := hf
  refine gm_getR (C := RX7) (T := TX7) (N := 9) (j := 8) hx hb hts inT_7 hown hK hW k1 (by decide) rfl (by decide) rfl (hts _ kw_284) rfl dX7_filledNote_89 hb22 ?_
  refine lv_bipush (v := 68) hx hb dX7_filledNote_92 (by decide +kernel) ?_
  refine lv_ldc2 (v := 8) hx hb hown (hts _ kw_1164) dX7_filledNote_94 ?_
  refine gm_ci (va_runS (As := [.ref b22, .int 68, .long 8]) (rest := []) ⟨hx, hb, hml, hown, hts⟩ (m_X1_putVarint l D cy tq _ Y _ _ _ _ _) (va_cwS 3 hts (good_S kw_1161 kw_518 kw_17 kw_519) rfl rfl rfl (by decide +kernel) ⟨Nat.le_of_ble_eq_true rfl, Nat.le_of_ble_eq_true rfl⟩) (gm_preS hK hW hC hS hA hf) rfl rfl hl.1 rfl (lv_room (Nat.le_of_ble_eq_true rfl)) dX7_filledNote_97 ⟨Nat.le_of_ble_eq_true rfl, Nat.le_of_ble_eq_true rfl⟩) hW hS hA (fun r24 M23 H locs hW hS hf => ?_)
  refine lv_pop hx hb dX7_filledNote_100 rfl ?_
  refine lv_aload_n hx hb dX7_filledNote_101 rfl (lv_at hl 1 rfl) ?_
  obtain ⟨b25, hb25, hf⟩ := hf
  refine gm_getR (C := RX7) (T := TX7) (N := 9) (j := 8) hx hb hts inT_7 hown hK hW k1 (by decide) rfl (by decide) rfl (hts _ kw_284) rfl dX7_filledNote_102 hb25 ?_
  refine lv_bipush (v := 69) hx hb dX7_filledNote_105 (by decide +kernel) ?_
  refine lv_bipush (v := 8) hx hb dX7_filledNote_107 (by decide +kernel) ?_
  refine lv_lload_n hx hb dX7_filledNote_109 rfl (lv_at hl 4 rfl) ?_
  refine gm_cv (va_runS (As := [.ref b25, .int 69, .int 8, .long v3]) (rest := []) ⟨hx, hb, hml, hown, hts⟩ (m_X1_put l D cy tq _ Y _ _ _ _ _ _) (va_cwS 4 hts (good_S kw_1162 kw_450 kw_17 kw_451) rfl rfl rfl (by decide +kernel) ⟨Nat.le_of_ble_eq_true rfl, Nat.le_of_ble_eq_true rfl⟩) (gm_preS hK hW hC hS hA hf) rfl rfl hl.1 rfl (lv_room (Nat.le_of_ble_eq_true rfl)) dX7_filledNote_110 ⟨Nat.le_of_ble_eq_true rfl, Nat.le_of_ble_eq_true rfl⟩) hW hS hA (fun M26 H locs hW hS hf => ?_)
  refine lv_aload_n hx hb dX7_filledNote_113 rfl (lv_at hl 1 rfl) ?_
  obtain ⟨b27, hb27, hf⟩ := hf
  refine gm_getR (C := RX7) (T := TX7) (N := 9) (j := 8) hx hb hts inT_7 hown hK hW k1 (by decide) rfl (by decide) rfl (hts _ kw_284) rfl dX7_filledNote_114 hb27 ?_
  refine lv_bipush (v := 77) hx hb dX7_filledNote_117 (by decide +kernel) ?_
  refine lv_iconst (v := 0) hx hb dX7_filledNote_119 (by decide +kernel) ?_
  obtain ⟨k28, hf⟩ := hf
  obtain ⟨h29, hf⟩ := hf
  refine gm_bast hx hb hK hW hS k28 h29 dX7_filledNote_120 (fun H locs M30 eM30 hW hS => ?_)
  replace hf := hf M30 eM30
  refine lv_aload_n hx hb dX7_filledNote_121 rfl (lv_at hl 1 rfl) ?_
  obtain ⟨b31, hb31, hf⟩ := hf
  refine gm_getR (C := RX7) (T := TX7) (N := 9) (j := 8) hx hb hts inT_7 hown hK hW k1 (by decide) rfl (by decide) rfl (hts _ kw_284) rfl dX7_filledNote_122 hb31 ?_
  refine lv_iconst (v := 0) hx hb dX7_filledNote_125 (by decide +kernel) ?_
  refine lv_bipush (v := 78) hx hb dX7_filledNote_126 (by decide +kernel) ?_
  refine gm_cv (va_runS (As := [.ref b31, .int 0, .int 78]) (rest := []) ⟨hx, hb, hml, hown, hts⟩ (m_X0_finish l D cy tq _ Y _ _ _ _ _) (va_cwS 3 hts (good_S kw_1165 kw_753 kw_20 kw_754) rfl rfl rfl (by decide +kernel) ⟨Nat.le_of_ble_eq_true rfl, Nat.le_of_ble_eq_true rfl⟩) (gm_preS hK hW hC hS hA hf) rfl rfl hl.1 rfl (lv_room (Nat.le_of_ble_eq_true rfl)) dX7_filledNote_128 ⟨Nat.le_of_ble_eq_true rfl, Nat.le_of_ble_eq_true rfl⟩) hW hS hA (fun M32 H locs hW hS hf => ?_)
  refine lv_aload_n hx hb dX7_filledNote_131 rfl (lv_at hl 1 rfl) ?_
  obtain ⟨b33, hb33, hf⟩ := hf
  refine gm_getR (C := RX7) (T := TX7) (N := 9) (j := 8) hx hb hts inT_7 hown hK hW k1 (by decide) rfl (by decide) rfl (hts _ kw_284) rfl dX7_filledNote_132 hb33 ?_
  exact gm_aret hx hb hr (by first | exact Or.inl ⟨_, rfl⟩ | exact Or.inr ⟨_, rfl⟩) hlocks hW hS hf dX7_filledNote_135

abbrev rm_X7_settle : Room := { frames := 6, cells := 0, slots := 0, locals := 178 }
def f_X7_settle_48 (Y : Ly) (M : Mm) (Kn : Int32 → Mm → Prop) : Prop :=
  bz 1 ∧ Kn 1 M
def f_X7_settle_174 (Y : Ly) (Kn : Int32 → Mm → Prop) (M32 : Mm) : Prop :=
  bz 1 ∧ Kn 1 M32
def f_X7_settle_33 (Y : Ly) (v0 : Nat) (v1 : Int32) (M : Mm) (Kn : Int32 → Mm → Prop) (y8 : Int32) : Prop :=
  ∃ b9 : Nat, mR M v0 2 = some b9 ∧ (yK Y b9 = 101 ∧ (vp_in v1 (yN Y b9) ∧ ((¬ (mI M b9 v1.toNatClampNeg) = 1 → (f_X7_settle_48 Y M Kn)) ∧ ((mI M b9 v1.toNatClampNeg) = 1 → ((¬ y8 = 0 → (∃ b14 : Nat, mR M v0 4 = some b14 ∧ (yK Y b14 = 101 ∧ (vp_in v1 (yN Y b14) ∧ ((¬ (mI M b14 v1.toNatClampNeg) = 0 → (∃ b18 : Nat, mR M v0 1 = some b18 ∧ (yK Y b18 = 101 ∧ (vp_in v1 (yN Y b18) ∧ (f_X7_filledNote Y v0 v1 255 (((mI M b18 v1.toNatClampNeg) + 1).toInt64) M (fun r22 M21 => (∃ b23 : Nat, mR M21 v0 7 = some b23 ∧ (∃ b24 : Nat, mR M21 v0 7 = some b24 ∧ (yK Y b24 = 9 ∧ (f_X9_own Y b24 M21 (fun r26 M25 => (yK Y b23 = 9 ∧ (f_X9_append Y b23 r26 r22 78 M25 (fun r29 M28 => ((¬ r29 = (-3) → ((r29 = (-2) → (f_X7_settle_174 Y Kn M28)) ∧ (¬ (r29 = (-2)) → (∃ b34 : Nat, mR M28 v0 1 = some b34 ∧ (yK Y b34 = 101 ∧ (vp_in v1 (yN Y b34) ∧ (vp_in v1 (yN Y b34) ∧ (∀ M38 : Mm, M38 = sI M28 b34 (m1 (mI M28 b34) v1.toNatClampNeg ((mI M28 b34 v1.toNatClampNeg) + 1)) → (∃ b39 : Nat, mR M38 v0 2 = some b39 ∧ (yK Y b39 = 101 ∧ (vp_in v1 (yN Y b39) ∧ (∀ M42 : Mm, M42 = sI M38 b39 (m1 (mI M38 b39) v1.toNatClampNeg 2) → (∃ b43 : Nat, mR M42 v0 3 = some b43 ∧ (∃ b44 : Nat, mR M42 v0 4 = some b44 ∧ (yK Y b44 = 101 ∧ (vp_in v1 (yN Y b44) ∧ (yK Y b43 = 101 ∧ (vp_in v1 (yN Y b43) ∧ (∀ M49 : Mm, M49 = sI M42 b43 (m1 (mI M42 b43) v1.toNatClampNeg (mI M42 b44 v1.toNatClampNeg)) → (∃ b50 : Nat, mR M49 v0 6 = some b50 ∧ (f_J7_fill_fda19 Y b50 (v1 * 8) ((v1 * 8) + 8) (mI M49 v0 0) M49 (fun M51 => (f_X7_settle_174 Y Kn M51))))))))))))))))))))))) ∧ (r29 = (-3) → (bz 0 ∧ Kn 0 M28))))))))))))))))) ∧ ((mI M b14 v1.toNatClampNeg) = 0 → (f_X7_makeEmpty Y v0 v1 M (fun M52 => (bz 1 ∧ Kn 1 M52))))))))) ∧ (y8 = 0 → (f_X7_settle_48 Y M Kn)))))))
def f_X7_settle_28 (Y : Ly) (v0 : Nat) (v1 : Int32) (M : Mm) (Kn : Int32 → Mm → Prop) : Prop :=
  f_X7_settle_33 Y v0 v1 M Kn 1
def f_X7_settle (Y : Ly) (v0 : Nat) (v1 : Int32) (M : Mm) (Kn : Int32 → Mm → Prop) : Prop :=
  yK Y v0 = 7 ∧ (∃ b2 : Nat, mR M v0 4 = some b2 ∧ (yK Y b2 = 101 ∧ (vp_in v1 (yN Y b2) ∧ (∃ b5 : Nat, mR M v0 3 = some b5 ∧ (yK Y b5 = 101 ∧ (vp_in v1 (yN Y b5) ∧ (((mI M b2 v1.toNatClampNeg) = (mI M b5 v1.toNatClampNeg) → (f_X7_settle_28 Y v0 v1 M Kn)) ∧ (¬ ((mI M b2 v1.toNatClampNeg) = (mI M b5 v1.toNatClampNeg)) → (∃ b54 : Nat, mR M v0 5 = some b54 ∧ (yK Y b54 = 101 ∧ (vp_in v1 (yN Y b54) ∧ (((mI M v0 0) < (mI M b54 v1.toNatClampNeg) → (f_X7_settle_33 Y v0 v1 M Kn 0)) ∧ (¬ ((mI M v0 0) < (mI M b54 v1.toNatClampNeg)) → (f_X7_settle_28 Y v0 v1 M Kn))))))))))))))
set_option maxHeartbeats 4000000 in
set_option maxRecDepth 100000 in
theorem m_X7_settle (l : Launch) (D : va_G) (cy : Cy) (tq sz : Nat) (Y : Ly) (v0 : Nat) (v1 : Int32) (M : Mm) (Kn : Int32 → Mm → Prop) : Met l yX7_settle (Cond.code yX7_settle cX7_settle 6 (some .boolean) :: TT) rm_X7_settle (PcG D cy tq [.ref v0, .int v1] sz Y M (f_X7_settle Y v0 v1 M Kn)) (va_Qi Kn (BG D cy (Am Y sz) Y) (Am Y sz)) 0 0 (Am Y sz) := by
  refine Met.ofW (cc := cX7_settle) (maxL := 6) (ret := (some .boolean)) (by decide) rfl ?_
  intro p e s m args below meth c s₁ B hml hv
  obtain ⟨hargs, hsz, hW, hK, hC, hf⟩ := hv
  subst hsz
  have hx := B.exec
  have hb := B.bytes
  have hr := B.returns
  have hts : ∀ w ∈ TT, w.before args s = true := fun w h => atoms_spec (ws := Cond.code yX7_settle cX7_settle 6 (some .boolean) :: TT) B.pre w (List.mem_cons_of_mem _ h)
  have hown : s.vm.findClass RX7 = some m.cls := findClass_of_methodNamed B.named
  have hlocks := B.notSynchronized
  replace hW := Wd_self (sz := s.heap.size) hW
  generalize hAe : Am Y s.heap.size = A at hW hC ⊢
  have hA : ∀ q : Nat, s.heap.size ≤ q → A q := fun q h => by rw [← hAe]; exact Or.inr h
  clear hAe
  have hS : va_S A s.heap s.heap [] := va_S.rf
  obtain ⟨ls, hE, hl⟩ := gm_entry m [.ref v0, .int v1] (n := 6) hargs (Nat.le_of_ble_eq_true rfl)
  rw [hE]
  have hl : lv_has ls 6 [(0, .ref v0), (1, .int v1)] := hl
  show W p l e rm_X7_settle s m args below meth c s.heap [] 0 0 (MQ below (va_Qi Kn (BG D cy A Y) A) args s 0 0 A) (F0 m 0 ls [])
  unfold f_X7_settle at hf
  refine lv_aload_n hx hb dX7_settle_0 rfl (lv_at hl 0 rfl) ?_
  obtain ⟨k1, hf⟩ := hf
  obtain ⟨b2, hb2, hf⟩ := hf
  refine gm_getR (C := RX7) (T := TX7) (N := 9) (j := 4) hx hb hts inT_7 hown hK hW k1 (by decide) rfl (by decide) rfl (hts _ kw_279) rfl dX7_settle_1 hb2 ?_
  refine lv_iload_n hx hb dX7_settle_4 rfl (lv_at hl 1 rfl) ?_
  obtain ⟨k3, hf⟩ := hf
  obtain ⟨h4, hf⟩ := hf
  refine gm_iald hx hb hK hW k3 h4 dX7_settle_5 ?_
  refine lv_aload_n hx hb dX7_settle_6 rfl (lv_at hl 0 rfl) ?_
  obtain ⟨b5, hb5, hf⟩ := hf
  refine gm_getR (C := RX7) (T := TX7) (N := 9) (j := 3) hx hb hts inT_7 hown hK hW k1 (by decide) rfl (by decide) rfl (hts _ kw_277) rfl dX7_settle_7 hb5 ?_
  refine lv_iload_n hx hb dX7_settle_10 rfl (lv_at hl 1 rfl) ?_
  obtain ⟨k6, hf⟩ := hf
  obtain ⟨h7, hf⟩ := hf
  refine gm_iald hx hb hK hW k6 h7 dX7_settle_11 ?_
  have j33 : ∀ (y8 : Int32) (H : Heap) (locs : List Loc) (ls : Array Slot), lv_has ls 6 [(0, .ref v0), (1, .int v1)] → Wd D cy A Y M H → va_S A s.heap H locs → f_X7_settle_33 Y v0 v1 M Kn y8 → W p l e rm_X7_settle s m args below meth c H locs 0 0 (MQ below (va_Qi Kn (BG D cy A Y) A) args s 0 0 A) (F0 m 33 ls [.int y8]) := by
    intro y8 H locs ls hl hW hS hf
    unfold f_X7_settle_33 at hf
    refine lv_istore_n (lv' := [(2, .int y8), (0, .ref v0), (1, .int v1)]) hx hb dX7_settle_33 rfl hl (by decide) rfl (fun ls hl => ?_)
    refine lv_aload_n hx hb dX7_settle_34 rfl (lv_at hl 1 rfl) ?_
    obtain ⟨b9, hb9, hf⟩ := hf
    refine gm_getR (C := RX7) (T := TX7) (N := 9) (j := 2) hx hb hts inT_7 hown hK hW k1 (by decide) rfl (by decide) rfl (hts _ kw_275) rfl dX7_settle_35 hb9 ?_
    refine lv_iload_n hx hb dX7_settle_38 rfl (lv_at hl 2 rfl) ?_
    obtain ⟨k10, hf⟩ := hf
    obtain ⟨h11, hf⟩ := hf
    refine gm_iald hx hb hK hW k10 h11 dX7_settle_39 ?_
    refine lv_iconst (v := 1) hx hb dX7_settle_40 (by decide +kernel) ?_
    have j48 : ∀ (H : Heap) (locs : List Loc) (ls : Array Slot), lv_has ls 6 [] → Wd D cy A Y M H → va_S A s.heap H locs → f_X7_settle_48 Y M Kn  → W p l e rm_X7_settle s m args below meth c H locs 0 0 (MQ below (va_Qi Kn (BG D cy A Y) A) args s 0 0 A) (F0 m 48 ls []) := by
      intro  H locs ls hl hW hS hf
      unfold f_X7_settle_48 at hf
      refine lv_iconst (v := 1) hx hb dX7_settle_48 (by decide +kernel) ?_
      exact gm_zret hx hb hr hlocks hW hS hf.1 hf.2 dX7_settle_49
    refine lv_icmp_ne (tgt := 48) hx hb dX7_settle_41 (by decide) (fun c12 => ?_) (fun c12 => ?_)
    · replace hf := hf.1 c12
      exact j48  _ _ _ (lv_sub hl [] rfl) hW hS hf
    · replace hf := hf.2 c12
      refine lv_iload_n hx hb dX7_settle_44 rfl (lv_at hl 0 rfl) ?_
      refine lv_if_ne (tgt := 50) hx hb dX7_settle_45 (by decide) (fun c13 => ?_) (fun c13 => ?_)
      · replace hf := hf.1 c13
        refine lv_aload_n hx hb dX7_settle_50 rfl (lv_at hl 1 rfl) ?_
        obtain ⟨b14, hb14, hf⟩ := hf
        refine gm_getR (C := RX7) (T := TX7) (N := 9) (j := 4) hx hb hts inT_7 hown hK hW k1 (by decide) rfl (by decide) rfl (hts _ kw_279) rfl dX7_settle_51 hb14 ?_
        refine lv_iload_n hx hb dX7_settle_54 rfl (lv_at hl 2 rfl) ?_
        obtain ⟨k15, hf⟩ := hf
        obtain ⟨h16, hf⟩ := hf
        refine gm_iald hx hb hK hW k15 h16 dX7_settle_55 ?_
        refine lv_if_ne (tgt := 66) hx hb dX7_settle_56 (by decide) (fun c17 => ?_) (fun c17 => ?_)
        · replace hf := hf.1 c17
          refine lv_aload_n hx hb dX7_settle_66 rfl (lv_at hl 1 rfl) ?_
          refine lv_iload_n hx hb dX7_settle_67 rfl (lv_at hl 2 rfl) ?_
          refine lv_sipush (v := 255) hx hb dX7_settle_68 (by decide +kernel) ?_
          refine lv_aload_n hx hb dX7_settle_71 rfl (lv_at hl 1 rfl) ?_
          obtain ⟨b18, hb18, hf⟩ := hf
          refine gm_getR (C := RX7) (T := TX7) (N := 9) (j := 1) hx hb hts inT_7 hown hK hW k1 (by decide) rfl (by decide) rfl (hts _ kw_273) rfl dX7_settle_72 hb18 ?_
          refine lv_iload_n hx hb dX7_settle_75 rfl (lv_at hl 2 rfl) ?_
          obtain ⟨k19, hf⟩ := hf
          obtain ⟨h20, hf⟩ := hf
          refine gm_iald hx hb hK hW k19 h20 dX7_settle_76 ?_
          refine lv_iconst (v := 1) hx hb dX7_settle_77 (by decide +kernel) ?_
          refine lv_iadd hx hb dX7_settle_78 ?_
          refine lv_i2l hx hb dX7_settle_79 rfl ?_
          refine gm_cr (va_runV (As := [.int v1, .int 255, .long (((mI M b18 v1.toNatClampNeg) + 1).toInt64)]) (rest := []) ⟨hx, hb, hml, hown, hts⟩ (m_X7_filledNote l D cy tq _ Y _ _ _ _ _ _) (cwV 3 hts (good_V kw_1155 kw_1156 kw_1817 kw_11 kw_1157) rfl rfl rfl (by decide +kernel) ⟨Nat.le_of_ble_eq_true rfl, Nat.le_of_ble_eq_true rfl⟩) (gm_preV hK hW hC hS hA k1 (by decide) (q := (RX7, TX7, 9)) rfl rfl hf) rfl rfl hl.1 rfl (lv_room (Nat.le_of_ble_eq_true rfl)) dX7_settle_80 ⟨Nat.le_of_ble_eq_true rfl, Nat.le_of_ble_eq_true rfl⟩) hW hS hA (fun r22 M21 H locs hW hS hf => ?_)
          refine lv_astore_n (lv' := [(3, .ref r22), (2, .int y8), (0, .ref v0), (1, .int v1)]) hx hb dX7_settle_83 rfl hl (by decide) rfl (fun ls hl => ?_)
          refine lv_aload_n hx hb dX7_settle_84 rfl (lv_at hl 2 rfl) ?_
          obtain ⟨b23, hb23, hf⟩ := hf
          refine gm_getR (C := RX7) (T := TX7) (N := 9) (j := 7) hx hb hts inT_7 hown hK hW k1 (by decide) rfl (by decide) rfl (hts _ kw_283) rfl dX7_settle_85 hb23 ?_
          refine lv_aload_n hx hb dX7_settle_88 rfl (lv_at hl 2 rfl) ?_
          obtain ⟨b24, hb24, hf⟩ := hf
          refine gm_getR (C := RX7) (T := TX7) (N := 9) (j := 7) hx hb hts inT_7 hown hK hW k1 (by decide) rfl (by decide) rfl (hts _ kw_283) rfl dX7_settle_89 hb24 ?_
          obtain ⟨k27, hf⟩ := hf
          refine gm_cr (va_runV (As := []) (rest := [.ref b23]) ⟨hx, hb, hml, hown, hts⟩ (m_X9_own l D cy tq _ Y _ _ _) (cwV 0 hts (good_V kw_374 kw_375 kw_376 kw_8 kw_377) rfl rfl rfl (by decide +kernel) ⟨Nat.le_of_ble_eq_true rfl, Nat.le_of_ble_eq_true rfl⟩) (gm_preV hK hW hC hS hA k27 (by decide) (q := (RX9, TX9, 7)) rfl rfl hf) rfl rfl hl.1 rfl (lv_room (Nat.le_of_ble_eq_true rfl)) dX7_settle_92 ⟨Nat.le_of_ble_eq_true rfl, Nat.le_of_ble_eq_true rfl⟩) hW hS hA (fun r26 M25 H locs hW hS hf => ?_)
          refine lv_aload_n hx hb dX7_settle_95 rfl (lv_at hl 0 rfl) ?_
          refine lv_bipush (v := 78) hx hb dX7_settle_96 (by decide +kernel) ?_
          obtain ⟨k30, hf⟩ := hf
          refine gm_cl (va_runV (As := [.ref r26, .ref r22, .int 78]) (rest := []) ⟨hx, hb, hml, hown, hts⟩ (m_X9_append l D cy tq _ Y _ _ _ _ _ _) (cwV 3 hts (good_V kw_1166 kw_893 kw_894 kw_8 kw_895) rfl rfl rfl (by decide +kernel) ⟨Nat.le_of_ble_eq_true rfl, Nat.le_of_ble_eq_true rfl⟩) (gm_preV hK hW hC hS hA k30 (by decide) (q := (RX9, TX9, 7)) rfl rfl hf) rfl rfl hl.1 rfl (lv_room (Nat.le_of_ble_eq_true rfl)) dX7_settle_98 ⟨Nat.le_of_ble_eq_true rfl, Nat.le_of_ble_eq_true rfl⟩) hW hS hA (fun r29 M28 H locs hW hS hf => ?_)
          refine lv_lstore (lv' := [(4, .long r29), (3, .ref r22), (2, .int y8), (0, .ref v0), (1, .int v1)]) hx hb dX7_settle_101 hl (by decide) rfl (fun ls hl => ?_)
          refine lv_lload hx hb dX7_settle_103 (lv_at hl 0 rfl) ?_
          refine lv_ldc2 (v := -3) hx hb hown (hts _ kw_1167) dX7_settle_105 ?_
          refine W.lcmp hx hb dX7_settle_108 ?_
          refine lv_if_ne (tgt := 114) hx hb dX7_settle_109 (by decide) (fun c31 => ?_) (fun c31 => ?_)
          · replace hf := hf.1 ((not_congr lg_eq).mp c31)
            refine lv_lload hx hb dX7_settle_114 (lv_at hl 0 rfl) ?_
            refine lv_ldc2 (v := -2) hx hb hown (hts _ kw_1168) dX7_settle_116 ?_
            refine W.lcmp hx hb dX7_settle_119 ?_
            have j174 : ∀ (M32 : Mm) (H : Heap) (locs : List Loc) (ls : Array Slot), lv_has ls 6 [] → Wd D cy A Y M32 H → va_S A s.heap H locs → f_X7_settle_174 Y Kn M32 → W p l e rm_X7_settle s m args below meth c H locs 0 0 (MQ below (va_Qi Kn (BG D cy A Y) A) args s 0 0 A) (F0 m 174 ls []) := by
              intro M32 H locs ls hl hW hS hf
              unfold f_X7_settle_174 at hf
              refine lv_iconst (v := 1) hx hb dX7_settle_174 (by decide +kernel) ?_
              exact gm_zret hx hb hr hlocks hW hS hf.1 hf.2 dX7_settle_175
            refine lv_if_eq (tgt := 174) hx hb dX7_settle_120 (by decide) (fun c33 => ?_) (fun c33 => ?_)
            · replace hf := hf.1 (lg_eq.mp c33)
              exact j174 _ _ _ _ (lv_sub hl [] rfl) hW hS hf
            · replace hf := hf.2 (fun z => c33 (lg_eq.mpr z))
              refine lv_aload_n hx hb dX7_settle_123 rfl (lv_at hl 3 rfl) ?_
              obtain ⟨b34, hb34, hf⟩ := hf
              refine gm_getR (C := RX7) (T := TX7) (N := 9) (j := 1) hx hb hts inT_7 hown hK hW k1 (by decide) rfl (by decide) rfl (hts _ kw_273) rfl dX7_settle_124 hb34 ?_
              refine lv_iload_n hx hb dX7_settle_127 rfl (lv_at hl 4 rfl) ?_
              refine lv_dup2_11 hx hb dX7_settle_128 rfl rfl ?_
              obtain ⟨k35, hf⟩ := hf
              obtain ⟨h36, hf⟩ := hf
              refine gm_iald hx hb hK hW k35 h36 dX7_settle_129 ?_
              refine lv_iconst (v := 1) hx hb dX7_settle_130 (by decide +kernel) ?_
              refine lv_iadd hx hb dX7_settle_131 ?_
              obtain ⟨h37, hf⟩ := hf
              refine gm_iast hx hb hK hW hS k35 h37 dX7_settle_132 (fun H locs M38 eM38 hW hS => ?_)
              replace hf := hf M38 eM38
              refine lv_aload_n hx hb dX7_settle_133 rfl (lv_at hl 3 rfl) ?_
              obtain ⟨b39, hb39, hf⟩ := hf
              refine gm_getR (C := RX7) (T := TX7) (N := 9) (j := 2) hx hb hts inT_7 hown hK hW k1 (by decide) rfl (by decide) rfl (hts _ kw_275) rfl dX7_settle_134 hb39 ?_
              refine lv_iload_n hx hb dX7_settle_137 rfl (lv_at hl 4 rfl) ?_
              refine lv_iconst (v := 2) hx hb dX7_settle_138 (by decide +kernel) ?_
              obtain ⟨k40, hf⟩ := hf
              obtain ⟨h41, hf⟩ := hf
              refine gm_iast hx hb hK hW hS k40 h41 dX7_settle_139 (fun H locs M42 eM42 hW hS => ?_)
              replace hf := hf M42 eM42
              refine lv_aload_n hx hb dX7_settle_140 rfl (lv_at hl 3 rfl) ?_
              obtain ⟨b43, hb43, hf⟩ := hf
              refine gm_getR (C := RX7) (T := TX7) (N := 9) (j := 3) hx hb hts inT_7 hown hK hW k1 (by decide) rfl (by decide) rfl (hts _ kw_277) rfl dX7_settle_141 hb43 ?_
              refine lv_iload_n hx hb dX7_settle_144 rfl (lv_at hl 4 rfl) ?_
              refine lv_aload_n hx hb dX7_settle_145 rfl (lv_at hl 3 rfl) ?_
              obtain ⟨b44, hb44, hf⟩ := hf
              refine gm_getR (C := RX7) (T := TX7) (N := 9) (j := 4) hx hb hts inT_7 hown hK hW k1 (by decide) rfl (by decide) rfl (hts _ kw_279) rfl dX7_settle_146 hb44 ?_
              refine lv_iload_n hx hb dX7_settle_149 rfl (lv_at hl 4 rfl) ?_
              obtain ⟨k45, hf⟩ := hf
              obtain ⟨h46, hf⟩ := hf
              refine gm_iald hx hb hK hW k45 h46 dX7_settle_150 ?_
              obtain ⟨k47, hf⟩ := hf
              obtain ⟨h48, hf⟩ := hf
              refine gm_iast hx hb hK hW hS k47 h48 dX7_settle_151 (fun H locs M49 eM49 hW hS => ?_)
              replace hf := hf M49 eM49
              refine lv_aload_n hx hb dX7_settle_152 rfl (lv_at hl 3 rfl) ?_
              obtain ⟨b50, hb50, hf⟩ := hf
              refine gm_getR (C := RX7) (T := TX7) (N := 9) (j := 6) hx hb hts inT_7 hown hK hW k1 (by decide) rfl (by decide) rfl (hts _ kw_282) rfl dX7_settle_153 hb50 ?_
              refine lv_iload_n hx hb dX7_settle_156 rfl (lv_at hl 4 rfl) ?_
              refine lv_bipush (v := 8) hx hb dX7_settle_157 (by decide +kernel) ?_
              refine lv_imul hx hb dX7_settle_159 ?_
              refine lv_iload_n hx hb dX7_settle_160 rfl (lv_at hl 4 rfl) ?_
              refine lv_bipush (v := 8) hx hb dX7_settle_161 (by decide +kernel) ?_
              refine lv_imul hx hb dX7_settle_163 ?_
              refine lv_bipush (v := 8) hx hb dX7_settle_164 (by decide +kernel) ?_
              refine lv_iadd hx hb dX7_settle_166 ?_
              refine lv_aload_n hx hb dX7_settle_167 rfl (lv_at hl 3 rfl) ?_
              refine gm_getI (C := RX7) (T := TX7) (N := 9) (j := 0) hx hb hts inT_7 hown hK hW k1 (by decide) rfl (by decide) rfl (hts _ kw_271) rfl dX7_settle_168 ?_
              refine gm_cv (va_runS (As := [.ref b50, .int (v1 * 8), .int ((v1 * 8) + 8), .int (mI M49 v0 0)]) (rest := []) ⟨hx, hb, hml, hown, hts⟩ (m_J7_fill_fda19 l D cy tq _ Y _ _ _ _ _ _) (va_cwS 4 hts (good_S kw_1169 kw_1082 kw_21 kw_1083) rfl rfl rfl (by decide +kernel) ⟨Nat.le_of_ble_eq_true rfl, Nat.le_of_ble_eq_true rfl⟩) (gm_preS hK hW hC hS hA hf) rfl rfl hl.1 rfl (lv_room (Nat.le_of_ble_eq_true rfl)) dX7_settle_171 ⟨Nat.le_of_ble_eq_true rfl, Nat.le_of_ble_eq_true rfl⟩) hW hS hA (fun M51 H locs hW hS hf => ?_)
              exact j174 _ _ _ _ (lv_sub hl [] rfl) hW hS hf
          · replace hf := hf.2 (lg_eq.mp c31)
            refine lv_iconst (v := 0) hx hb dX7_settle_112 (by decide +kernel) ?_
            exact gm_zret hx hb hr hlocks hW hS hf.1 hf.2 dX7_settle_113
        · replace hf := hf.2 c17
          refine lv_aload_n hx hb dX7_settle_59 rfl (lv_at hl 1 rfl) ?_
          refine lv_iload_n hx hb dX7_settle_60 rfl (lv_at hl 2 rfl) ?_
          refine gm_cv (va_runV (As := [.int v1]) (rest := []) ⟨hx, hb, hml, hown, hts⟩ (m_X7_makeEmpty l D cy tq _ Y _ _ _ _) (cwV 1 hts (good_V kw_367 kw_368 kw_1787 kw_11 kw_369) rfl rfl rfl (by decide +kernel) ⟨Nat.le_of_ble_eq_true rfl, Nat.le_of_ble_eq_true rfl⟩) (gm_preV hK hW hC hS hA k1 (by decide) (q := (RX7, TX7, 9)) rfl rfl hf) rfl rfl hl.1 rfl (lv_room (Nat.le_of_ble_eq_true rfl)) dX7_settle_61 ⟨Nat.le_of_ble_eq_true rfl, Nat.le_of_ble_eq_true rfl⟩) hW hS hA (fun M52 H locs hW hS hf => ?_)
          refine lv_iconst (v := 1) hx hb dX7_settle_64 (by decide +kernel) ?_
          exact gm_zret hx hb hr hlocks hW hS hf.1 hf.2 dX7_settle_65
      · replace hf := hf.2 c13
        exact j48  _ _ _ (lv_sub hl [] rfl) hW hS hf
  have j28 : ∀ (H : Heap) (locs : List Loc) (ls : Array Slot), lv_has ls 6 [(0, .ref v0), (1, .int v1)] → Wd D cy A Y M H → va_S A s.heap H locs → f_X7_settle_28 Y v0 v1 M Kn  → W p l e rm_X7_settle s m args below meth c H locs 0 0 (MQ below (va_Qi Kn (BG D cy A Y) A) args s 0 0 A) (F0 m 28 ls []) := by
    intro  H locs ls hl hW hS hf
    unfold f_X7_settle_28 at hf
    refine lv_iconst (v := 1) hx hb dX7_settle_28 (by decide +kernel) ?_
    refine lv_goto (tgt := 33) hx hb dX7_settle_29 (by decide) ?_
    exact j33 _ _ _ _ (lv_sub hl [0, 1] rfl) hW hS hf
  refine lv_icmp_eq (tgt := 28) hx hb dX7_settle_12 (by decide) (fun c53 => ?_) (fun c53 => ?_)
  · replace hf := hf.1 c53
    exact j28  _ _ _ (lv_sub hl [0, 1] rfl) hW hS hf
  · replace hf := hf.2 c53
    refine lv_aload_n hx hb dX7_settle_15 rfl (lv_at hl 0 rfl) ?_
    refine gm_getI (C := RX7) (T := TX7) (N := 9) (j := 0) hx hb hts inT_7 hown hK hW k1 (by decide) rfl (by decide) rfl (hts _ kw_271) rfl dX7_settle_16 ?_
    refine lv_aload_n hx hb dX7_settle_19 rfl (lv_at hl 0 rfl) ?_
    obtain ⟨b54, hb54, hf⟩ := hf
    refine gm_getR (C := RX7) (T := TX7) (N := 9) (j := 5) hx hb hts inT_7 hown hK hW k1 (by decide) rfl (by decide) rfl (hts _ kw_281) rfl dX7_settle_20 hb54 ?_
    refine lv_iload_n hx hb dX7_settle_23 rfl (lv_at hl 1 rfl) ?_
    obtain ⟨k55, hf⟩ := hf
    obtain ⟨h56, hf⟩ := hf
    refine gm_iald hx hb hK hW k55 h56 dX7_settle_24 ?_
    refine lv_icmp_lt (tgt := 32) hx hb dX7_settle_25 (by decide) (fun c57 => ?_) (fun c57 => ?_)
    · replace hf := hf.1 c57
      refine lv_iconst (v := 0) hx hb dX7_settle_32 (by decide +kernel) ?_
      exact j33 _ _ _ _ (lv_sub hl [0, 1] rfl) hW hS hf
    · replace hf := hf.2 c57
      exact j28  _ _ _ (lv_sub hl [0, 1] rfl) hW hS hf

abbrev rm_X7_mix : Room := { frames := 2, cells := 0, slots := 0, locals := 80 }
def f_X7_mix (Y : Ly) (v0 : Nat) (v1 : Int32) (M : Mm) (Kn : Mm → Prop) : Prop :=
  yK Y v0 = 7 ∧ (∃ b2 : Nat, mR M v0 2 = some b2 ∧ (yK Y b2 = 101 ∧ (vp_in v1 (yN Y b2) ∧ (∀ M5 : Mm, M5 = sI M b2 (m1 (mI M b2) v1.toNatClampNeg 1) → (∃ b6 : Nat, mR M5 v0 4 = some b6 ∧ (yK Y b6 = 101 ∧ (vp_in v1 (yN Y b6) ∧ (∀ M9 : Mm, M9 = sI M5 b6 (m1 (mI M5 b6) v1.toNatClampNeg 0) → (∃ b10 : Nat, mR M9 v0 5 = some b10 ∧ (yK Y b10 = 101 ∧ (vp_in v1 (yN Y b10) ∧ (∀ M13 : Mm, M13 = sI M9 b10 (m1 (mI M9 b10) v1.toNatClampNeg ((mI M9 v0 0) + 20)) → (Kn M13)))))))))))))
set_option maxHeartbeats 4000000 in
set_option maxRecDepth 100000 in
theorem m_X7_mix (l : Launch) (D : va_G) (cy : Cy) (tq sz : Nat) (Y : Ly) (v0 : Nat) (v1 : Int32) (M : Mm) (Kn : Mm → Prop) : Met l yX7_mix (Cond.code yX7_mix cX7_mix 2 none :: TT) rm_X7_mix (PcG D cy tq [.ref v0, .int v1] sz Y M (f_X7_mix Y v0 v1 M Kn)) (va_Qv Kn (BG D cy (Am Y sz) Y) (Am Y sz)) 0 0 (Am Y sz) := by
  refine Met.ofW (cc := cX7_mix) (maxL := 2) (ret := none) (by decide) rfl ?_
  intro p e s m args below meth c s₁ B hml hv
  obtain ⟨hargs, hsz, hW, hK, hC, hf⟩ := hv
  subst hsz
  have hx := B.exec
  have hb := B.bytes
  have hr := B.returns
  have hts : ∀ w ∈ TT, w.before args s = true := fun w h => atoms_spec (ws := Cond.code yX7_mix cX7_mix 2 none :: TT) B.pre w (List.mem_cons_of_mem _ h)
  have hown : s.vm.findClass RX7 = some m.cls := findClass_of_methodNamed B.named
  have hlocks := B.notSynchronized
  replace hW := Wd_self (sz := s.heap.size) hW
  generalize hAe : Am Y s.heap.size = A at hW hC ⊢
  have hA : ∀ q : Nat, s.heap.size ≤ q → A q := fun q h => by rw [← hAe]; exact Or.inr h
  clear hAe
  have hS : va_S A s.heap s.heap [] := va_S.rf
  obtain ⟨ls, hE, hl⟩ := gm_entry m [.ref v0, .int v1] (n := 2) hargs (Nat.le_of_ble_eq_true rfl)
  rw [hE]
  have hl : lv_has ls 2 [(0, .ref v0), (1, .int v1)] := hl
  show W p l e rm_X7_mix s m args below meth c s.heap [] 0 0 (MQ below (va_Qv Kn (BG D cy A Y) A) args s 0 0 A) (F0 m 0 ls [])
  unfold f_X7_mix at hf
  refine lv_aload_n hx hb dX7_mix_0 rfl (lv_at hl 0 rfl) ?_
  obtain ⟨k1, hf⟩ := hf
  obtain ⟨b2, hb2, hf⟩ := hf
  refine gm_getR (C := RX7) (T := TX7) (N := 9) (j := 2) hx hb hts inT_7 hown hK hW k1 (by decide) rfl (by decide) rfl (hts _ kw_275) rfl dX7_mix_1 hb2 ?_
  refine lv_iload_n hx hb dX7_mix_4 rfl (lv_at hl 1 rfl) ?_
  refine lv_iconst (v := 1) hx hb dX7_mix_5 (by decide +kernel) ?_
  obtain ⟨k3, hf⟩ := hf
  obtain ⟨h4, hf⟩ := hf
  refine gm_iast hx hb hK hW hS k3 h4 dX7_mix_6 (fun H locs M5 eM5 hW hS => ?_)
  replace hf := hf M5 eM5
  refine lv_aload_n hx hb dX7_mix_7 rfl (lv_at hl 0 rfl) ?_
  obtain ⟨b6, hb6, hf⟩ := hf
  refine gm_getR (C := RX7) (T := TX7) (N := 9) (j := 4) hx hb hts inT_7 hown hK hW k1 (by decide) rfl (by decide) rfl (hts _ kw_279) rfl dX7_mix_8 hb6 ?_
  refine lv_iload_n hx hb dX7_mix_11 rfl (lv_at hl 1 rfl) ?_
  refine lv_iconst (v := 0) hx hb dX7_mix_12 (by decide +kernel) ?_
  obtain ⟨k7, hf⟩ := hf
  obtain ⟨h8, hf⟩ := hf
  refine gm_iast hx hb hK hW hS k7 h8 dX7_mix_13 (fun H locs M9 eM9 hW hS => ?_)
  replace hf := hf M9 eM9
  refine lv_aload_n hx hb dX7_mix_14 rfl (lv_at hl 0 rfl) ?_
  obtain ⟨b10, hb10, hf⟩ := hf
  refine gm_getR (C := RX7) (T := TX7) (N := 9) (j := 5) hx hb hts inT_7 hown hK hW k1 (by decide) rfl (by decide) rfl (hts _ kw_281) rfl dX7_mix_15 hb10 ?_
  refine lv_iload_n hx hb dX7_mix_18 rfl (lv_at hl 1 rfl) ?_
  refine lv_aload_n hx hb dX7_mix_19 rfl (lv_at hl 0 rfl) ?_
  refine gm_getI (C := RX7) (T := TX7) (N := 9) (j := 0) hx hb hts inT_7 hown hK hW k1 (by decide) rfl (by decide) rfl (hts _ kw_271) rfl dX7_mix_20 ?_
  refine lv_bipush (v := 20) hx hb dX7_mix_23 (by decide +kernel) ?_
  refine lv_iadd hx hb dX7_mix_25 ?_
  obtain ⟨k11, hf⟩ := hf
  obtain ⟨h12, hf⟩ := hf
  refine gm_iast hx hb hK hW hS k11 h12 dX7_mix_26 (fun H locs M13 eM13 hW hS => ?_)
  replace hf := hf M13 eM13
  exact gm_vret hx hb hr hlocks hW hS hf dX7_mix_27

abbrev rm_X7_enter : Room := { frames := 7, cells := 0, slots := 0, locals := 203 }
def f_X7_enter_85 (Y : Ly) (Kn : Int32 → Mm → Prop) (M20 : Mm) (y26 : Int32) : Prop :=
  Kn y26 M20
def f_X7_enter_15 (Y : Ly) (v0 : Nat) (v1 : Int32) (v2 : Int32) (Kn : Int32 → Mm → Prop) (M5 : Mm) : Prop :=
  ∃ b6 : Nat, mR M5 v0 3 = some b6 ∧ (yK Y b6 = 101 ∧ (vp_in v1 (yN Y b6) ∧ (vp_in v1 (yN Y b6) ∧ (∀ M10 : Mm, M10 = sI M5 b6 (m1 (mI M5 b6) v1.toNatClampNeg ((mI M5 b6 v1.toNatClampNeg) ||| (1 <<< (v2 &&& 31)))) → (∃ b11 : Nat, mR M10 v0 4 = some b11 ∧ (yK Y b11 = 101 ∧ (vp_in v1 (yN Y b11) ∧ (vp_in v1 (yN Y b11) ∧ (∀ M15 : Mm, M15 = sI M10 b11 (m1 (mI M10 b11) v1.toNatClampNeg ((mI M10 b11 v1.toNatClampNeg) ||| (1 <<< (v2 &&& 31)))) → (∃ b16 : Nat, mR M15 v0 6 = some b16 ∧ (yK Y b16 = 101 ∧ (vp_in ((v1 * 8) + v2) (yN Y b16) ∧ (∀ M19 : Mm, M19 = sI M15 b16 (m1 (mI M15 b16) ((v1 * 8) + v2).toNatClampNeg (mI M15 v0 0)) → (f_X7_settle Y v0 v1 M19 (fun r21 M20 => ((¬ r21 = 0 → (∃ b23 : Nat, mR M20 v0 2 = some b23 ∧ (yK Y b23 = 101 ∧ (vp_in v1 (yN Y b23) ∧ ((¬ (mI M20 b23 v1.toNatClampNeg) = 2 → (f_X7_enter_85 Y Kn M20 (-1))) ∧ ((mI M20 b23 v1.toNatClampNeg) = 2 → (∃ b28 : Nat, mR M20 v0 1 = some b28 ∧ (yK Y b28 = 101 ∧ (vp_in v1 (yN Y b28) ∧ (f_X7_enter_85 Y Kn M20 (mI M20 b28 v1.toNatClampNeg))))))))))) ∧ (r21 = 0 → (Kn (-3) M20))))))))))))))))))
def f_X7_enter (Y : Ly) (v0 : Nat) (v1 : Int32) (v2 : Int32) (M : Mm) (Kn : Int32 → Mm → Prop) : Prop :=
  yK Y v0 = 7 ∧ (∃ b2 : Nat, mR M v0 2 = some b2 ∧ (yK Y b2 = 101 ∧ (vp_in v1 (yN Y b2) ∧ (((mI M b2 v1.toNatClampNeg) = 1 → (f_X7_enter_15 Y v0 v1 v2 Kn M)) ∧ (¬ ((mI M b2 v1.toNatClampNeg) = 1) → (f_X7_mix Y v0 v1 M (fun M32 => (f_X7_enter_15 Y v0 v1 v2 Kn M32))))))))
set_option maxHeartbeats 4000000 in
set_option maxRecDepth 100000 in
theorem m_X7_enter (l : Launch) (D : va_G) (cy : Cy) (tq sz : Nat) (Y : Ly) (v0 : Nat) (v1 : Int32) (v2 : Int32) (M : Mm) (Kn : Int32 → Mm → Prop) : Met l yX7_enter (Cond.code yX7_enter cX7_enter 3 (some .int) :: TT) rm_X7_enter (PcG D cy tq [.ref v0, .int v1, .int v2] sz Y M (f_X7_enter Y v0 v1 v2 M Kn)) (va_Qi Kn (BG D cy (Am Y sz) Y) (Am Y sz)) 0 0 (Am Y sz) := by
  refine Met.ofW (cc := cX7_enter) (maxL := 3) (ret := (some .int)) (by decide) rfl ?_
  intro p e s m args below meth c s₁ B hml hv
  obtain ⟨hargs, hsz, hW, hK, hC, hf⟩ := hv
  subst hsz
  have hx := B.exec
  have hb := B.bytes
  have hr := B.returns
  have hts : ∀ w ∈ TT, w.before args s = true := fun w h => atoms_spec (ws := Cond.code yX7_enter cX7_enter 3 (some .int) :: TT) B.pre w (List.mem_cons_of_mem _ h)
  have hown : s.vm.findClass RX7 = some m.cls := findClass_of_methodNamed B.named
  have hlocks := B.notSynchronized
  replace hW := Wd_self (sz := s.heap.size) hW
  generalize hAe : Am Y s.heap.size = A at hW hC ⊢
  have hA : ∀ q : Nat, s.heap.size ≤ q → A q := fun q h => by rw [← hAe]; exact Or.inr h
  clear hAe
  have hS : va_S A s.heap s.heap [] := va_S.rf
  obtain ⟨ls, hE, hl⟩ := gm_entry m [.ref v0, .int v1, .int v2] (n := 3) hargs (Nat.le_of_ble_eq_true rfl)
  rw [hE]
  have hl : lv_has ls 3 [(0, .ref v0), (1, .int v1), (2, .int v2)] := hl
  show W p l e rm_X7_enter s m args below meth c s.heap [] 0 0 (MQ below (va_Qi Kn (BG D cy A Y) A) args s 0 0 A) (F0 m 0 ls [])
  unfold f_X7_enter at hf
  refine lv_aload_n hx hb dX7_enter_0 rfl (lv_at hl 0 rfl) ?_
  obtain ⟨k1, hf⟩ := hf
  obtain ⟨b2, hb2, hf⟩ := hf
  refine gm_getR (C := RX7) (T := TX7) (N := 9) (j := 2) hx hb hts inT_7 hown hK hW k1 (by decide) rfl (by decide) rfl (hts _ kw_275) rfl dX7_enter_1 hb2 ?_
  refine lv_iload_n hx hb dX7_enter_4 rfl (lv_at hl 1 rfl) ?_
  obtain ⟨k3, hf⟩ := hf
  obtain ⟨h4, hf⟩ := hf
  refine gm_iald hx hb hK hW k3 h4 dX7_enter_5 ?_
  refine lv_iconst (v := 1) hx hb dX7_enter_6 (by decide +kernel) ?_
  have j15 : ∀ (M5 : Mm) (H : Heap) (locs : List Loc) (ls : Array Slot), lv_has ls 3 [(0, .ref v0), (1, .int v1), (2, .int v2)] → Wd D cy A Y M5 H → va_S A s.heap H locs → f_X7_enter_15 Y v0 v1 v2 Kn M5 → W p l e rm_X7_enter s m args below meth c H locs 0 0 (MQ below (va_Qi Kn (BG D cy A Y) A) args s 0 0 A) (F0 m 15 ls []) := by
    intro M5 H locs ls hl hW hS hf
    unfold f_X7_enter_15 at hf
    refine lv_aload_n hx hb dX7_enter_15 rfl (lv_at hl 0 rfl) ?_
    obtain ⟨b6, hb6, hf⟩ := hf
    refine gm_getR (C := RX7) (T := TX7) (N := 9) (j := 3) hx hb hts inT_7 hown hK hW k1 (by decide) rfl (by decide) rfl (hts _ kw_277) rfl dX7_enter_16 hb6 ?_
    refine lv_iload_n hx hb dX7_enter_19 rfl (lv_at hl 1 rfl) ?_
    refine lv_dup2_11 hx hb dX7_enter_20 rfl rfl ?_
    obtain ⟨k7, hf⟩ := hf
    obtain ⟨h8, hf⟩ := hf
    refine gm_iald hx hb hK hW k7 h8 dX7_enter_21 ?_
    refine lv_iconst (v := 1) hx hb dX7_enter_22 (by decide +kernel) ?_
    refine lv_iload_n hx hb dX7_enter_23 rfl (lv_at hl 2 rfl) ?_
    refine lv_ishl hx hb dX7_enter_24 ?_
    refine lv_ior hx hb dX7_enter_25 ?_
    obtain ⟨h9, hf⟩ := hf
    refine gm_iast hx hb hK hW hS k7 h9 dX7_enter_26 (fun H locs M10 eM10 hW hS => ?_)
    replace hf := hf M10 eM10
    refine lv_aload_n hx hb dX7_enter_27 rfl (lv_at hl 0 rfl) ?_
    obtain ⟨b11, hb11, hf⟩ := hf
    refine gm_getR (C := RX7) (T := TX7) (N := 9) (j := 4) hx hb hts inT_7 hown hK hW k1 (by decide) rfl (by decide) rfl (hts _ kw_279) rfl dX7_enter_28 hb11 ?_
    refine lv_iload_n hx hb dX7_enter_31 rfl (lv_at hl 1 rfl) ?_
    refine lv_dup2_11 hx hb dX7_enter_32 rfl rfl ?_
    obtain ⟨k12, hf⟩ := hf
    obtain ⟨h13, hf⟩ := hf
    refine gm_iald hx hb hK hW k12 h13 dX7_enter_33 ?_
    refine lv_iconst (v := 1) hx hb dX7_enter_34 (by decide +kernel) ?_
    refine lv_iload_n hx hb dX7_enter_35 rfl (lv_at hl 2 rfl) ?_
    refine lv_ishl hx hb dX7_enter_36 ?_
    refine lv_ior hx hb dX7_enter_37 ?_
    obtain ⟨h14, hf⟩ := hf
    refine gm_iast hx hb hK hW hS k12 h14 dX7_enter_38 (fun H locs M15 eM15 hW hS => ?_)
    replace hf := hf M15 eM15
    refine lv_aload_n hx hb dX7_enter_39 rfl (lv_at hl 0 rfl) ?_
    obtain ⟨b16, hb16, hf⟩ := hf
    refine gm_getR (C := RX7) (T := TX7) (N := 9) (j := 6) hx hb hts inT_7 hown hK hW k1 (by decide) rfl (by decide) rfl (hts _ kw_282) rfl dX7_enter_40 hb16 ?_
    refine lv_iload_n hx hb dX7_enter_43 rfl (lv_at hl 1 rfl) ?_
    refine lv_bipush (v := 8) hx hb dX7_enter_44 (by decide +kernel) ?_
    refine lv_imul hx hb dX7_enter_46 ?_
    refine lv_iload_n hx hb dX7_enter_47 rfl (lv_at hl 2 rfl) ?_
    refine lv_iadd hx hb dX7_enter_48 ?_
    refine lv_aload_n hx hb dX7_enter_49 rfl (lv_at hl 0 rfl) ?_
    refine gm_getI (C := RX7) (T := TX7) (N := 9) (j := 0) hx hb hts inT_7 hown hK hW k1 (by decide) rfl (by decide) rfl (hts _ kw_271) rfl dX7_enter_50 ?_
    obtain ⟨k17, hf⟩ := hf
    obtain ⟨h18, hf⟩ := hf
    refine gm_iast hx hb hK hW hS k17 h18 dX7_enter_53 (fun H locs M19 eM19 hW hS => ?_)
    replace hf := hf M19 eM19
    refine lv_aload_n hx hb dX7_enter_54 rfl (lv_at hl 0 rfl) ?_
    refine lv_iload_n hx hb dX7_enter_55 rfl (lv_at hl 1 rfl) ?_
    refine gm_ci (va_runV (As := [.int v1]) (rest := []) ⟨hx, hb, hml, hown, hts⟩ (m_X7_settle l D cy tq _ Y _ _ _ _) (cwV 1 hts (good_V kw_1152 kw_1153 kw_1816 kw_11 kw_1154) rfl rfl rfl (by decide +kernel) ⟨Nat.le_of_ble_eq_true rfl, Nat.le_of_ble_eq_true rfl⟩) (gm_preV hK hW hC hS hA k1 (by decide) (q := (RX7, TX7, 9)) rfl rfl hf) rfl rfl hl.1 rfl (lv_room (Nat.le_of_ble_eq_true rfl)) dX7_enter_56 ⟨Nat.le_of_ble_eq_true rfl, Nat.le_of_ble_eq_true rfl⟩) hW hS hA (fun r21 M20 H locs hW hS hf => ?_)
    refine lv_if_ne (tgt := 65) hx hb dX7_enter_59 (by decide) (fun c22 => ?_) (fun c22 => ?_)
    · replace hf := hf.1 c22
      refine lv_aload_n hx hb dX7_enter_65 rfl (lv_at hl 0 rfl) ?_
      obtain ⟨b23, hb23, hf⟩ := hf
      refine gm_getR (C := RX7) (T := TX7) (N := 9) (j := 2) hx hb hts inT_7 hown hK hW k1 (by decide) rfl (by decide) rfl (hts _ kw_275) rfl dX7_enter_66 hb23 ?_
      refine lv_iload_n hx hb dX7_enter_69 rfl (lv_at hl 1 rfl) ?_
      obtain ⟨k24, hf⟩ := hf
      obtain ⟨h25, hf⟩ := hf
      refine gm_iald hx hb hK hW k24 h25 dX7_enter_70 ?_
      refine lv_iconst (v := 2) hx hb dX7_enter_71 (by decide +kernel) ?_
      have j85 : ∀ (y26 : Int32) (H : Heap) (locs : List Loc) (ls : Array Slot), lv_has ls 3 [] → Wd D cy A Y M20 H → va_S A s.heap H locs → f_X7_enter_85 Y Kn M20 y26 → W p l e rm_X7_enter s m args below meth c H locs 0 0 (MQ below (va_Qi Kn (BG D cy A Y) A) args s 0 0 A) (F0 m 85 ls [.int y26]) := by
        intro y26 H locs ls hl hW hS hf
        unfold f_X7_enter_85 at hf
        exact gm_iret hx hb hr hlocks hW hS hf dX7_enter_85
      refine lv_icmp_ne (tgt := 84) hx hb dX7_enter_72 (by decide) (fun c27 => ?_) (fun c27 => ?_)
      · replace hf := hf.1 c27
        refine lv_iconst (v := -1) hx hb dX7_enter_84 (by decide +kernel) ?_
        exact j85 _ _ _ _ (lv_sub hl [] rfl) hW hS hf
      · replace hf := hf.2 c27
        refine lv_aload_n hx hb dX7_enter_75 rfl (lv_at hl 0 rfl) ?_
        obtain ⟨b28, hb28, hf⟩ := hf
        refine gm_getR (C := RX7) (T := TX7) (N := 9) (j := 1) hx hb hts inT_7 hown hK hW k1 (by decide) rfl (by decide) rfl (hts _ kw_273) rfl dX7_enter_76 hb28 ?_
        refine lv_iload_n hx hb dX7_enter_79 rfl (lv_at hl 1 rfl) ?_
        obtain ⟨k29, hf⟩ := hf
        obtain ⟨h30, hf⟩ := hf
        refine gm_iald hx hb hK hW k29 h30 dX7_enter_80 ?_
        refine lv_goto (tgt := 85) hx hb dX7_enter_81 (by decide) ?_
        exact j85 _ _ _ _ (lv_sub hl [] rfl) hW hS hf
    · replace hf := hf.2 c22
      refine lv_bipush (v := -3) hx hb dX7_enter_62 (by decide +kernel) ?_
      exact gm_iret hx hb hr hlocks hW hS hf dX7_enter_64
  refine lv_icmp_eq (tgt := 15) hx hb dX7_enter_7 (by decide) (fun c31 => ?_) (fun c31 => ?_)
  · replace hf := hf.1 c31
    exact j15 _ _ _ _ (lv_sub hl [0, 1, 2] rfl) hW hS hf
  · replace hf := hf.2 c31
    refine lv_aload_n hx hb dX7_enter_10 rfl (lv_at hl 0 rfl) ?_
    refine lv_iload_n hx hb dX7_enter_11 rfl (lv_at hl 1 rfl) ?_
    refine gm_cv (va_runV (As := [.int v1]) (rest := []) ⟨hx, hb, hml, hown, hts⟩ (m_X7_mix l D cy tq _ Y _ _ _ _) (cwV 1 hts (good_V kw_1149 kw_1150 kw_1815 kw_11 kw_1151) rfl rfl rfl (by decide +kernel) ⟨Nat.le_of_ble_eq_true rfl, Nat.le_of_ble_eq_true rfl⟩) (gm_preV hK hW hC hS hA k1 (by decide) (q := (RX7, TX7, 9)) rfl rfl hf) rfl rfl hl.1 rfl (lv_room (Nat.le_of_ble_eq_true rfl)) dX7_enter_12 ⟨Nat.le_of_ble_eq_true rfl, Nat.le_of_ble_eq_true rfl⟩) hW hS hA (fun M32 H locs hW hS hf => ?_)
    exact j15 _ _ _ _ (lv_sub hl [0, 1, 2] rfl) hW hS hf

abbrev rm_X7_hasMember : Room := { frames := 2, cells := 0, slots := 0, locals := 80 }
def f_X7_hasMember_19 (Y : Ly) (M : Mm) (Kn : Int32 → Mm → Prop) (y5 : Int32) : Prop :=
  bz y5 ∧ Kn y5 M
def f_X7_hasMember (Y : Ly) (v0 : Nat) (v1 : Int32) (v2 : Int32) (M : Mm) (Kn : Int32 → Mm → Prop) : Prop :=
  yK Y v0 = 7 ∧ (∃ b2 : Nat, mR M v0 3 = some b2 ∧ (yK Y b2 = 101 ∧ (vp_in v1 (yN Y b2) ∧ ((¬ (((mI M b2 v1.toNatClampNeg) >>> (v2 &&& 31)) &&& 1) = 1 → (f_X7_hasMember_19 Y M Kn 0)) ∧ ((((mI M b2 v1.toNatClampNeg) >>> (v2 &&& 31)) &&& 1) = 1 → (f_X7_hasMember_19 Y M Kn 1))))))
set_option maxHeartbeats 4000000 in
set_option maxRecDepth 100000 in
theorem m_X7_hasMember (l : Launch) (D : va_G) (cy : Cy) (tq sz : Nat) (Y : Ly) (v0 : Nat) (v1 : Int32) (v2 : Int32) (M : Mm) (Kn : Int32 → Mm → Prop) : Met l yX7_hasMember (Cond.code yX7_hasMember cX7_hasMember 3 (some .boolean) :: TT) rm_X7_hasMember (PcG D cy tq [.ref v0, .int v1, .int v2] sz Y M (f_X7_hasMember Y v0 v1 v2 M Kn)) (va_Qi Kn (BG D cy (Am Y sz) Y) (Am Y sz)) 0 0 (Am Y sz) := by
  refine Met.ofW (cc := cX7_hasMember) (maxL := 3) (ret := (some .boolean)) (by decide) rfl ?_
  intro p e s m args below meth c s₁ B hml hv
  obtain ⟨hargs, hsz, hW, hK, hC, hf⟩ := hv
  subst hsz
  have hx := B.exec
  have hb := B.bytes
  have hr := B.returns
  have hts : ∀ w ∈ TT, w.before args s = true := fun w h => atoms_spec (ws := Cond.code yX7_hasMember cX7_hasMember 3 (some .boolean) :: TT) B.pre w (List.mem_cons_of_mem _ h)
  have hown : s.vm.findClass RX7 = some m.cls := findClass_of_methodNamed B.named
  have hlocks := B.notSynchronized
  replace hW := Wd_self (sz := s.heap.size) hW
  generalize hAe : Am Y s.heap.size = A at hW hC ⊢
  have hA : ∀ q : Nat, s.heap.size ≤ q → A q := fun q h => by rw [← hAe]; exact Or.inr h
  clear hAe
  have hS : va_S A s.heap s.heap [] := va_S.rf
  obtain ⟨ls, hE, hl⟩ := gm_entry m [.ref v0, .int v1, .int v2] (n := 3) hargs (Nat.le_of_ble_eq_true rfl)
  rw [hE]
  have hl : lv_has ls 3 [(0, .ref v0), (1, .int v1), (2, .int v2)] := hl
  show W p l e rm_X7_hasMember s m args below meth c s.heap [] 0 0 (MQ below (va_Qi Kn (BG D cy A Y) A) args s 0 0 A) (F0 m 0 ls [])
  unfold f_X7_hasMember at hf
  refine lv_aload_n hx hb dX7_hasMember_0 rfl (lv_at hl 0 rfl) ?_
  obtain ⟨k1, hf⟩ := hf
  obtain ⟨b2, hb2, hf⟩ := hf
  refine gm_getR (C := RX7) (T := TX7) (N := 9) (j := 3) hx hb hts inT_7 hown hK hW k1 (by decide) rfl (by decide) rfl (hts _ kw_277) rfl dX7_hasMember_1 hb2 ?_
  refine lv_iload_n hx hb dX7_hasMember_4 rfl (lv_at hl 1 rfl) ?_
  obtain ⟨k3, hf⟩ := hf
  obtain ⟨h4, hf⟩ := hf
  refine gm_iald hx hb hK hW k3 h4 dX7_hasMember_5 ?_
  refine lv_iload_n hx hb dX7_hasMember_6 rfl (lv_at hl 2 rfl) ?_
  refine lv_ishr hx hb dX7_hasMember_7 ?_
  refine lv_iconst (v := 1) hx hb dX7_hasMember_8 (by decide +kernel) ?_
  refine lv_iand hx hb dX7_hasMember_9 ?_
  refine lv_iconst (v := 1) hx hb dX7_hasMember_10 (by decide +kernel) ?_
  have j19 : ∀ (y5 : Int32) (H : Heap) (locs : List Loc) (ls : Array Slot), lv_has ls 3 [] → Wd D cy A Y M H → va_S A s.heap H locs → f_X7_hasMember_19 Y M Kn y5 → W p l e rm_X7_hasMember s m args below meth c H locs 0 0 (MQ below (va_Qi Kn (BG D cy A Y) A) args s 0 0 A) (F0 m 19 ls [.int y5]) := by
    intro y5 H locs ls hl hW hS hf
    unfold f_X7_hasMember_19 at hf
    exact gm_zret hx hb hr hlocks hW hS hf.1 hf.2 dX7_hasMember_19
  refine lv_icmp_ne (tgt := 18) hx hb dX7_hasMember_11 (by decide) (fun c6 => ?_) (fun c6 => ?_)
  · replace hf := hf.1 c6
    refine lv_iconst (v := 0) hx hb dX7_hasMember_18 (by decide +kernel) ?_
    exact j19 _ _ _ _ (lv_sub hl [] rfl) hW hS hf
  · replace hf := hf.2 c6
    refine lv_iconst (v := 1) hx hb dX7_hasMember_14 (by decide +kernel) ?_
    refine lv_goto (tgt := 19) hx hb dX7_hasMember_15 (by decide) ?_
    exact j19 _ _ _ _ (lv_sub hl [] rfl) hW hS hf

abbrev rm_X7_depart : Room := { frames := 7, cells := 0, slots := 0, locals := 203 }
def f_X7_depart_86 (Y : Ly) (Kn : Int32 → Mm → Prop) (M19 : Mm) (y21 : Int32) : Prop :=
  Kn y21 M19
def f_X7_depart_72 (Y : Ly) (v0 : Nat) (v1 : Int32) (Kn : Int32 → Mm → Prop) (M18 : Mm) : Prop :=
  f_X7_settle Y v0 v1 M18 (fun r20 M19 => ((r20 = 0 → (f_X7_depart_86 Y Kn M19 (-3))) ∧ (¬ (r20 = 0) → (f_X7_depart_86 Y Kn M19 1))))
def f_X7_depart (Y : Ly) (v0 : Nat) (v1 : Int32) (v2 : Int32) (M : Mm) (Kn : Int32 → Mm → Prop) : Prop :=
  yK Y v0 = 7 ∧ (f_X7_hasMember Y v0 v1 v2 M (fun r2 M1 => ((¬ r2 = 0 → (∃ b5 : Nat, mR M1 v0 3 = some b5 ∧ (yK Y b5 = 101 ∧ (vp_in v1 (yN Y b5) ∧ (vp_in v1 (yN Y b5) ∧ (∀ M9 : Mm, M9 = sI M1 b5 (m1 (mI M1 b5) v1.toNatClampNeg ((mI M1 b5 v1.toNatClampNeg) &&& ((1 <<< (v2 &&& 31)) ^^^ (-1)))) → (∃ b10 : Nat, mR M9 v0 4 = some b10 ∧ (yK Y b10 = 101 ∧ (vp_in v1 (yN Y b10) ∧ (vp_in v1 (yN Y b10) ∧ (∀ M14 : Mm, M14 = sI M9 b10 (m1 (mI M9 b10) v1.toNatClampNeg ((mI M9 b10 v1.toNatClampNeg) &&& ((1 <<< (v2 &&& 31)) ^^^ (-1)))) → (∃ b15 : Nat, mR M14 v0 3 = some b15 ∧ (yK Y b15 = 101 ∧ (vp_in v1 (yN Y b15) ∧ ((¬ (mI M14 b15 v1.toNatClampNeg) = 0 → (∃ b24 : Nat, mR M14 v0 2 = some b24 ∧ (yK Y b24 = 101 ∧ (vp_in v1 (yN Y b24) ∧ ((¬ (mI M14 b24 v1.toNatClampNeg) = 2 → (f_X7_depart_72 Y v0 v1 Kn M14)) ∧ ((mI M14 b24 v1.toNatClampNeg) = 2 → (f_X7_mix Y v0 v1 M14 (fun M28 => (f_X7_depart_72 Y v0 v1 Kn M28))))))))) ∧ ((mI M14 b15 v1.toNatClampNeg) = 0 → (f_X7_makeEmpty Y v0 v1 M14 (fun M29 => (f_X7_depart_72 Y v0 v1 Kn M29))))))))))))))))))) ∧ (r2 = 0 → (Kn (-8) M1)))))
set_option maxHeartbeats 4000000 in
set_option maxRecDepth 100000 in
theorem m_X7_depart (l : Launch) (D : va_G) (cy : Cy) (tq sz : Nat) (Y : Ly) (v0 : Nat) (v1 : Int32) (v2 : Int32) (M : Mm) (Kn : Int32 → Mm → Prop) : Met l yX7_depart (Cond.code yX7_depart cX7_depart 3 (some .int) :: TT) rm_X7_depart (PcG D cy tq [.ref v0, .int v1, .int v2] sz Y M (f_X7_depart Y v0 v1 v2 M Kn)) (va_Qi Kn (BG D cy (Am Y sz) Y) (Am Y sz)) 0 0 (Am Y sz) := by
  refine Met.ofW (cc := cX7_depart) (maxL := 3) (ret := (some .int)) (by decide) rfl ?_
  intro p e s m args below meth c s₁ B hml hv
  obtain ⟨hargs, hsz, hW, hK, hC, hf⟩ := hv
  subst hsz
  have hx := B.exec
  have hb := B.bytes
  have hr := B.returns
  have hts : ∀ w ∈ TT, w.before args s = true := fun w h => atoms_spec (ws := Cond.code yX7_depart cX7_depart 3 (some .int) :: TT) B.pre w (List.mem_cons_of_mem _ h)
  have hown : s.vm.findClass RX7 = some m.cls := findClass_of_methodNamed B.named
  have hlocks := B.notSynchronized
  replace hW := Wd_self (sz := s.heap.size) hW
  generalize hAe : Am Y s.heap.size = A at hW hC ⊢
  have hA : ∀ q : Nat, s.heap.size ≤ q → A q := fun q h => by rw [← hAe]; exact Or.inr h
  clear hAe
  have hS : va_S A s.heap s.heap [] := va_S.rf
  obtain ⟨ls, hE, hl⟩ := gm_entry m [.ref v0, .int v1, .int v2] (n := 3) hargs (Nat.le_of_ble_eq_true rfl)
  rw [hE]
  have hl : lv_has ls 3 [(0, .ref v0), (1, .int v1), (2, .int v2)] := hl
  show W p l e rm_X7_depart s m args below meth c s.heap [] 0 0 (MQ below (va_Qi Kn (BG D cy A Y) A) args s 0 0 A) (F0 m 0 ls [])
  unfold f_X7_depart at hf
  refine lv_aload_n hx hb dX7_depart_0 rfl (lv_at hl 0 rfl) ?_
  refine lv_iload_n hx hb dX7_depart_1 rfl (lv_at hl 1 rfl) ?_
  refine lv_iload_n hx hb dX7_depart_2 rfl (lv_at hl 2 rfl) ?_
  obtain ⟨k3, hf⟩ := hf
  refine gm_ci (va_runV (As := [.int v1, .int v2]) (rest := []) ⟨hx, hb, hml, hown, hts⟩ (m_X7_hasMember l D cy tq _ Y _ _ _ _ _) (cwV 2 hts (good_V kw_1181 kw_1182 kw_1818 kw_11 kw_1183) rfl rfl rfl (by decide +kernel) ⟨Nat.le_of_ble_eq_true rfl, Nat.le_of_ble_eq_true rfl⟩) (gm_preV hK hW hC hS hA k3 (by decide) (q := (RX7, TX7, 9)) rfl rfl hf) rfl rfl hl.1 rfl (lv_room (Nat.le_of_ble_eq_true rfl)) dX7_depart_3 ⟨Nat.le_of_ble_eq_true rfl, Nat.le_of_ble_eq_true rfl⟩) hW hS hA (fun r2 M1 H locs hW hS hf => ?_)
  refine lv_if_ne (tgt := 12) hx hb dX7_depart_6 (by decide) (fun c4 => ?_) (fun c4 => ?_)
  · replace hf := hf.1 c4
    refine lv_aload_n hx hb dX7_depart_12 rfl (lv_at hl 0 rfl) ?_
    obtain ⟨b5, hb5, hf⟩ := hf
    refine gm_getR (C := RX7) (T := TX7) (N := 9) (j := 3) hx hb hts inT_7 hown hK hW k3 (by decide) rfl (by decide) rfl (hts _ kw_277) rfl dX7_depart_13 hb5 ?_
    refine lv_iload_n hx hb dX7_depart_16 rfl (lv_at hl 1 rfl) ?_
    refine lv_dup2_11 hx hb dX7_depart_17 rfl rfl ?_
    obtain ⟨k6, hf⟩ := hf
    obtain ⟨h7, hf⟩ := hf
    refine gm_iald hx hb hK hW k6 h7 dX7_depart_18 ?_
    refine lv_iconst (v := 1) hx hb dX7_depart_19 (by decide +kernel) ?_
    refine lv_iload_n hx hb dX7_depart_20 rfl (lv_at hl 2 rfl) ?_
    refine lv_ishl hx hb dX7_depart_21 ?_
    refine lv_iconst (v := -1) hx hb dX7_depart_22 (by decide +kernel) ?_
    refine lv_ixor hx hb dX7_depart_23 ?_
    refine lv_iand hx hb dX7_depart_24 ?_
    obtain ⟨h8, hf⟩ := hf
    refine gm_iast hx hb hK hW hS k6 h8 dX7_depart_25 (fun H locs M9 eM9 hW hS => ?_)
    replace hf := hf M9 eM9
    refine lv_aload_n hx hb dX7_depart_26 rfl (lv_at hl 0 rfl) ?_
    obtain ⟨b10, hb10, hf⟩ := hf
    refine gm_getR (C := RX7) (T := TX7) (N := 9) (j := 4) hx hb hts inT_7 hown hK hW k3 (by decide) rfl (by decide) rfl (hts _ kw_279) rfl dX7_depart_27 hb10 ?_
    refine lv_iload_n hx hb dX7_depart_30 rfl (lv_at hl 1 rfl) ?_
    refine lv_dup2_11 hx hb dX7_depart_31 rfl rfl ?_
    obtain ⟨k11, hf⟩ := hf
    obtain ⟨h12, hf⟩ := hf
    refine gm_iald hx hb hK hW k11 h12 dX7_depart_32 ?_
    refine lv_iconst (v := 1) hx hb dX7_depart_33 (by decide +kernel) ?_
    refine lv_iload_n hx hb dX7_depart_34 rfl (lv_at hl 2 rfl) ?_
    refine lv_ishl hx hb dX7_depart_35 ?_
    refine lv_iconst (v := -1) hx hb dX7_depart_36 (by decide +kernel) ?_
    refine lv_ixor hx hb dX7_depart_37 ?_
    refine lv_iand hx hb dX7_depart_38 ?_
    obtain ⟨h13, hf⟩ := hf
    refine gm_iast hx hb hK hW hS k11 h13 dX7_depart_39 (fun H locs M14 eM14 hW hS => ?_)
    replace hf := hf M14 eM14
    refine lv_aload_n hx hb dX7_depart_40 rfl (lv_at hl 0 rfl) ?_
    obtain ⟨b15, hb15, hf⟩ := hf
    refine gm_getR (C := RX7) (T := TX7) (N := 9) (j := 3) hx hb hts inT_7 hown hK hW k3 (by decide) rfl (by decide) rfl (hts _ kw_277) rfl dX7_depart_41 hb15 ?_
    refine lv_iload_n hx hb dX7_depart_44 rfl (lv_at hl 1 rfl) ?_
    obtain ⟨k16, hf⟩ := hf
    obtain ⟨h17, hf⟩ := hf
    refine gm_iald hx hb hK hW k16 h17 dX7_depart_45 ?_
    have j72 : ∀ (M18 : Mm) (H : Heap) (locs : List Loc) (ls : Array Slot), lv_has ls 3 [(0, .ref v0), (1, .int v1)] → Wd D cy A Y M18 H → va_S A s.heap H locs → f_X7_depart_72 Y v0 v1 Kn M18 → W p l e rm_X7_depart s m args below meth c H locs 0 0 (MQ below (va_Qi Kn (BG D cy A Y) A) args s 0 0 A) (F0 m 72 ls []) := by
      intro M18 H locs ls hl hW hS hf
      unfold f_X7_depart_72 at hf
      refine lv_aload_n hx hb dX7_depart_72 rfl (lv_at hl 0 rfl) ?_
      refine lv_iload_n hx hb dX7_depart_73 rfl (lv_at hl 1 rfl) ?_
      refine gm_ci (va_runV (As := [.int v1]) (rest := []) ⟨hx, hb, hml, hown, hts⟩ (m_X7_settle l D cy tq _ Y _ _ _ _) (cwV 1 hts (good_V kw_1152 kw_1153 kw_1816 kw_11 kw_1154) rfl rfl rfl (by decide +kernel) ⟨Nat.le_of_ble_eq_true rfl, Nat.le_of_ble_eq_true rfl⟩) (gm_preV hK hW hC hS hA k3 (by decide) (q := (RX7, TX7, 9)) rfl rfl hf) rfl rfl hl.1 rfl (lv_room (Nat.le_of_ble_eq_true rfl)) dX7_depart_74 ⟨Nat.le_of_ble_eq_true rfl, Nat.le_of_ble_eq_true rfl⟩) hW hS hA (fun r20 M19 H locs hW hS hf => ?_)
      have j86 : ∀ (y21 : Int32) (H : Heap) (locs : List Loc) (ls : Array Slot), lv_has ls 3 [] → Wd D cy A Y M19 H → va_S A s.heap H locs → f_X7_depart_86 Y Kn M19 y21 → W p l e rm_X7_depart s m args below meth c H locs 0 0 (MQ below (va_Qi Kn (BG D cy A Y) A) args s 0 0 A) (F0 m 86 ls [.int y21]) := by
        intro y21 H locs ls hl hW hS hf
        unfold f_X7_depart_86 at hf
        exact gm_iret hx hb hr hlocks hW hS hf dX7_depart_86
      refine lv_if_eq (tgt := 84) hx hb dX7_depart_77 (by decide) (fun c22 => ?_) (fun c22 => ?_)
      · replace hf := hf.1 c22
        refine lv_bipush (v := -3) hx hb dX7_depart_84 (by decide +kernel) ?_
        exact j86 _ _ _ _ (lv_sub hl [] rfl) hW hS hf
      · replace hf := hf.2 c22
        refine lv_iconst (v := 1) hx hb dX7_depart_80 (by decide +kernel) ?_
        refine lv_goto (tgt := 86) hx hb dX7_depart_81 (by decide) ?_
        exact j86 _ _ _ _ (lv_sub hl [] rfl) hW hS hf
    refine lv_if_ne (tgt := 57) hx hb dX7_depart_46 (by decide) (fun c23 => ?_) (fun c23 => ?_)
    · replace hf := hf.1 c23
      refine lv_aload_n hx hb dX7_depart_57 rfl (lv_at hl 0 rfl) ?_
      obtain ⟨b24, hb24, hf⟩ := hf
      refine gm_getR (C := RX7) (T := TX7) (N := 9) (j := 2) hx hb hts inT_7 hown hK hW k3 (by decide) rfl (by decide) rfl (hts _ kw_275) rfl dX7_depart_58 hb24 ?_
      refine lv_iload_n hx hb dX7_depart_61 rfl (lv_at hl 1 rfl) ?_
      obtain ⟨k25, hf⟩ := hf
      obtain ⟨h26, hf⟩ := hf
      refine gm_iald hx hb hK hW k25 h26 dX7_depart_62 ?_
      refine lv_iconst (v := 2) hx hb dX7_depart_63 (by decide +kernel) ?_
      refine lv_icmp_ne (tgt := 72) hx hb dX7_depart_64 (by decide) (fun c27 => ?_) (fun c27 => ?_)
      · replace hf := hf.1 c27
        exact j72 _ _ _ _ (lv_sub hl [0, 1] rfl) hW hS hf
      · replace hf := hf.2 c27
        refine lv_aload_n hx hb dX7_depart_67 rfl (lv_at hl 0 rfl) ?_
        refine lv_iload_n hx hb dX7_depart_68 rfl (lv_at hl 1 rfl) ?_
        refine gm_cv (va_runV (As := [.int v1]) (rest := []) ⟨hx, hb, hml, hown, hts⟩ (m_X7_mix l D cy tq _ Y _ _ _ _) (cwV 1 hts (good_V kw_1149 kw_1150 kw_1815 kw_11 kw_1151) rfl rfl rfl (by decide +kernel) ⟨Nat.le_of_ble_eq_true rfl, Nat.le_of_ble_eq_true rfl⟩) (gm_preV hK hW hC hS hA k3 (by decide) (q := (RX7, TX7, 9)) rfl rfl hf) rfl rfl hl.1 rfl (lv_room (Nat.le_of_ble_eq_true rfl)) dX7_depart_69 ⟨Nat.le_of_ble_eq_true rfl, Nat.le_of_ble_eq_true rfl⟩) hW hS hA (fun M28 H locs hW hS hf => ?_)
        exact j72 _ _ _ _ (lv_sub hl [0, 1] rfl) hW hS hf
    · replace hf := hf.2 c23
      refine lv_aload_n hx hb dX7_depart_49 rfl (lv_at hl 0 rfl) ?_
      refine lv_iload_n hx hb dX7_depart_50 rfl (lv_at hl 1 rfl) ?_
      refine gm_cv (va_runV (As := [.int v1]) (rest := []) ⟨hx, hb, hml, hown, hts⟩ (m_X7_makeEmpty l D cy tq _ Y _ _ _ _) (cwV 1 hts (good_V kw_367 kw_368 kw_1787 kw_11 kw_369) rfl rfl rfl (by decide +kernel) ⟨Nat.le_of_ble_eq_true rfl, Nat.le_of_ble_eq_true rfl⟩) (gm_preV hK hW hC hS hA k3 (by decide) (q := (RX7, TX7, 9)) rfl rfl hf) rfl rfl hl.1 rfl (lv_room (Nat.le_of_ble_eq_true rfl)) dX7_depart_51 ⟨Nat.le_of_ble_eq_true rfl, Nat.le_of_ble_eq_true rfl⟩) hW hS hA (fun M29 H locs hW hS hf => ?_)
      refine lv_goto (tgt := 72) hx hb dX7_depart_54 (by decide) ?_
      exact j72 _ _ _ _ (lv_sub hl [0, 1] rfl) hW hS hf
  · replace hf := hf.2 c4
    refine lv_bipush (v := -8) hx hb dX7_depart_9 (by decide +kernel) ?_
    exact gm_iret hx hb hr hlocks hW hS hf dX7_depart_11

abbrev rm_X7_refusal : Room := { frames := 3, cells := 0, slots := 0, locals := 102 }
def f_X7_refusal_28 (Y : Ly) (Kn : Int32 → Mm → Prop) (M1 : Mm) (y8 : Int32) : Prop :=
  Kn y8 M1
def f_X7_refusal (Y : Ly) (v0 : Nat) (v1 : Int32) (v2 : Int32) (v3 : Int32) (M : Mm) (Kn : Int32 → Mm → Prop) : Prop :=
  yK Y v0 = 7 ∧ (f_X7_hasMember Y v0 v1 v2 M (fun r2 M1 => ((¬ r2 = 0 → (∃ b5 : Nat, mR M1 v0 1 = some b5 ∧ (yK Y b5 = 101 ∧ (vp_in v1 (yN Y b5) ∧ ((¬ v3 = (mI M1 b5 v1.toNatClampNeg) → (f_X7_refusal_28 Y Kn M1 (-9))) ∧ (v3 = (mI M1 b5 v1.toNatClampNeg) → (f_X7_refusal_28 Y Kn M1 0))))))) ∧ (r2 = 0 → (Kn (-8) M1)))))
set_option maxHeartbeats 4000000 in
set_option maxRecDepth 100000 in
theorem m_X7_refusal (l : Launch) (D : va_G) (cy : Cy) (tq sz : Nat) (Y : Ly) (v0 : Nat) (v1 : Int32) (v2 : Int32) (v3 : Int32) (M : Mm) (Kn : Int32 → Mm → Prop) : Met l yX7_refusal (Cond.code yX7_refusal cX7_refusal 4 (some .int) :: TT) rm_X7_refusal (PcG D cy tq [.ref v0, .int v1, .int v2, .int v3] sz Y M (f_X7_refusal Y v0 v1 v2 v3 M Kn)) (va_Qi Kn (BG D cy (Am Y sz) Y) (Am Y sz)) 0 0 (Am Y sz) := by
  refine Met.ofW (cc := cX7_refusal) (maxL := 4) (ret := (some .int)) (by decide) rfl ?_
  intro p e s m args below meth c s₁ B hml hv
  obtain ⟨hargs, hsz, hW, hK, hC, hf⟩ := hv
  subst hsz
  have hx := B.exec
  have hb := B.bytes
  have hr := B.returns
  have hts : ∀ w ∈ TT, w.before args s = true := fun w h => atoms_spec (ws := Cond.code yX7_refusal cX7_refusal 4 (some .int) :: TT) B.pre w (List.mem_cons_of_mem _ h)
  have hown : s.vm.findClass RX7 = some m.cls := findClass_of_methodNamed B.named
  have hlocks := B.notSynchronized
  replace hW := Wd_self (sz := s.heap.size) hW
  generalize hAe : Am Y s.heap.size = A at hW hC ⊢
  have hA : ∀ q : Nat, s.heap.size ≤ q → A q := fun q h => by rw [← hAe]; exact Or.inr h
  clear hAe
  have hS : va_S A s.heap s.heap [] := va_S.rf
  obtain ⟨ls, hE, hl⟩ := gm_entry m [.ref v0, .int v1, .int v2, .int v3] (n := 4) hargs (Nat.le_of_ble_eq_true rfl)
  rw [hE]
  have hl : lv_has ls 4 [(0, .ref v0), (1, .int v1), (2, .int v2), (3, .int v3)] := hl
  show W p l e rm_X7_refusal s m args below meth c s.heap [] 0 0 (MQ below (va_Qi Kn (BG D cy A Y) A) args s 0 0 A) (F0 m 0 ls [])
  unfold f_X7_refusal at hf
  refine lv_aload_n hx hb dX7_refusal_0 rfl (lv_at hl 0 rfl) ?_
  refine lv_iload_n hx hb dX7_refusal_1 rfl (lv_at hl 1 rfl) ?_
  refine lv_iload_n hx hb dX7_refusal_2 rfl (lv_at hl 2 rfl) ?_
  obtain ⟨k3, hf⟩ := hf
  refine gm_ci (va_runV (As := [.int v1, .int v2]) (rest := []) ⟨hx, hb, hml, hown, hts⟩ (m_X7_hasMember l D cy tq _ Y _ _ _ _ _) (cwV 2 hts (good_V kw_1181 kw_1182 kw_1818 kw_11 kw_1183) rfl rfl rfl (by decide +kernel) ⟨Nat.le_of_ble_eq_true rfl, Nat.le_of_ble_eq_true rfl⟩) (gm_preV hK hW hC hS hA k3 (by decide) (q := (RX7, TX7, 9)) rfl rfl hf) rfl rfl hl.1 rfl (lv_room (Nat.le_of_ble_eq_true rfl)) dX7_refusal_3 ⟨Nat.le_of_ble_eq_true rfl, Nat.le_of_ble_eq_true rfl⟩) hW hS hA (fun r2 M1 H locs hW hS hf => ?_)
  refine lv_if_ne (tgt := 12) hx hb dX7_refusal_6 (by decide) (fun c4 => ?_) (fun c4 => ?_)
  · replace hf := hf.1 c4
    refine lv_iload_n hx hb dX7_refusal_12 rfl (lv_at hl 3 rfl) ?_
    refine lv_aload_n hx hb dX7_refusal_13 rfl (lv_at hl 0 rfl) ?_
    obtain ⟨b5, hb5, hf⟩ := hf
    refine gm_getR (C := RX7) (T := TX7) (N := 9) (j := 1) hx hb hts inT_7 hown hK hW k3 (by decide) rfl (by decide) rfl (hts _ kw_273) rfl dX7_refusal_14 hb5 ?_
    refine lv_iload_n hx hb dX7_refusal_17 rfl (lv_at hl 1 rfl) ?_
    obtain ⟨k6, hf⟩ := hf
    obtain ⟨h7, hf⟩ := hf
    refine gm_iald hx hb hK hW k6 h7 dX7_refusal_18 ?_
    have j28 : ∀ (y8 : Int32) (H : Heap) (locs : List Loc) (ls : Array Slot), lv_has ls 4 [] → Wd D cy A Y M1 H → va_S A s.heap H locs → f_X7_refusal_28 Y Kn M1 y8 → W p l e rm_X7_refusal s m args below meth c H locs 0 0 (MQ below (va_Qi Kn (BG D cy A Y) A) args s 0 0 A) (F0 m 28 ls [.int y8]) := by
      intro y8 H locs ls hl hW hS hf
      unfold f_X7_refusal_28 at hf
      exact gm_iret hx hb hr hlocks hW hS hf dX7_refusal_28
    refine lv_icmp_ne (tgt := 26) hx hb dX7_refusal_19 (by decide) (fun c9 => ?_) (fun c9 => ?_)
    · replace hf := hf.1 c9
      refine lv_bipush (v := -9) hx hb dX7_refusal_26 (by decide +kernel) ?_
      exact j28 _ _ _ _ (lv_sub hl [] rfl) hW hS hf
    · replace hf := hf.2 c9
      refine lv_iconst (v := 0) hx hb dX7_refusal_22 (by decide +kernel) ?_
      refine lv_goto (tgt := 28) hx hb dX7_refusal_23 (by decide) ?_
      exact j28 _ _ _ _ (lv_sub hl [] rfl) hW hS hf
  · replace hf := hf.2 c4
    refine lv_bipush (v := -8) hx hb dX7_refusal_9 (by decide +kernel) ?_
    exact gm_iret hx hb hr hlocks hW hS hf dX7_refusal_11

abbrev rm_X7_hear : Room := { frames := 4, cells := 0, slots := 0, locals := 125 }
def f_X7_hear_51 (Y : Ly) (Kn : Int32 → Mm → Prop) (M8 : Mm) (y12 : Int32) : Prop :=
  Kn y12 M8
def f_X7_hear (Y : Ly) (v0 : Nat) (v1 : Int32) (v2 : Int32) (v3 : Int32) (M : Mm) (Kn : Int32 → Mm → Prop) : Prop :=
  yK Y v0 = 7 ∧ (f_X7_refusal Y v0 v1 v2 v3 M (fun r2 M1 => ((r2 = 0 → (∃ b5 : Nat, mR M1 v0 6 = some b5 ∧ (yK Y b5 = 101 ∧ (vp_in ((v1 * 8) + v2) (yN Y b5) ∧ (∀ M8 : Mm, M8 = sI M1 b5 (m1 (mI M1 b5) ((v1 * 8) + v2).toNatClampNeg (mI M1 v0 0)) → (∃ b9 : Nat, mR M8 v0 4 = some b9 ∧ (yK Y b9 = 101 ∧ (vp_in v1 (yN Y b9) ∧ ((¬ (((mI M8 b9 v1.toNatClampNeg) >>> (v2 &&& 31)) &&& 1) = 1 → (f_X7_hear_51 Y Kn M8 1)) ∧ ((((mI M8 b9 v1.toNatClampNeg) >>> (v2 &&& 31)) &&& 1) = 1 → (f_X7_hear_51 Y Kn M8 0))))))))))) ∧ (¬ (r2 = 0) → (Kn r2 M1)))))
set_option maxHeartbeats 4000000 in
set_option maxRecDepth 100000 in
theorem m_X7_hear (l : Launch) (D : va_G) (cy : Cy) (tq sz : Nat) (Y : Ly) (v0 : Nat) (v1 : Int32) (v2 : Int32) (v3 : Int32) (M : Mm) (Kn : Int32 → Mm → Prop) : Met l yX7_hear (Cond.code yX7_hear cX7_hear 5 (some .int) :: TT) rm_X7_hear (PcG D cy tq [.ref v0, .int v1, .int v2, .int v3] sz Y M (f_X7_hear Y v0 v1 v2 v3 M Kn)) (va_Qi Kn (BG D cy (Am Y sz) Y) (Am Y sz)) 0 0 (Am Y sz) := by
  refine Met.ofW (cc := cX7_hear) (maxL := 5) (ret := (some .int)) (by decide) rfl ?_
  intro p e s m args below meth c s₁ B hml hv
  obtain ⟨hargs, hsz, hW, hK, hC, hf⟩ := hv
  subst hsz
  have hx := B.exec
  have hb := B.bytes
  have hr := B.returns
  have hts : ∀ w ∈ TT, w.before args s = true := fun w h => atoms_spec (ws := Cond.code yX7_hear cX7_hear 5 (some .int) :: TT) B.pre w (List.mem_cons_of_mem _ h)
  have hown : s.vm.findClass RX7 = some m.cls := findClass_of_methodNamed B.named
  have hlocks := B.notSynchronized
  replace hW := Wd_self (sz := s.heap.size) hW
  generalize hAe : Am Y s.heap.size = A at hW hC ⊢
  have hA : ∀ q : Nat, s.heap.size ≤ q → A q := fun q h => by rw [← hAe]; exact Or.inr h
  clear hAe
  have hS : va_S A s.heap s.heap [] := va_S.rf
  obtain ⟨ls, hE, hl⟩ := gm_entry m [.ref v0, .int v1, .int v2, .int v3] (n := 5) hargs (Nat.le_of_ble_eq_true rfl)
  rw [hE]
  have hl : lv_has ls 5 [(0, .ref v0), (1, .int v1), (2, .int v2), (3, .int v3)] := hl
  show W p l e rm_X7_hear s m args below meth c s.heap [] 0 0 (MQ below (va_Qi Kn (BG D cy A Y) A) args s 0 0 A) (F0 m 0 ls [])
  unfold f_X7_hear at hf
  refine lv_aload_n hx hb dX7_hear_0 rfl (lv_at hl 0 rfl) ?_
  refine lv_iload_n hx hb dX7_hear_1 rfl (lv_at hl 1 rfl) ?_
  refine lv_iload_n hx hb dX7_hear_2 rfl (lv_at hl 2 rfl) ?_
  refine lv_iload_n hx hb dX7_hear_3 rfl (lv_at hl 3 rfl) ?_
  obtain ⟨k3, hf⟩ := hf
  refine gm_ci (va_runV (As := [.int v1, .int v2, .int v3]) (rest := []) ⟨hx, hb, hml, hown, hts⟩ (m_X7_refusal l D cy tq _ Y _ _ _ _ _ _) (cwV 3 hts (good_V kw_1195 kw_1196 kw_1197 kw_11 kw_1198) rfl rfl rfl (by decide +kernel) ⟨Nat.le_of_ble_eq_true rfl, Nat.le_of_ble_eq_true rfl⟩) (gm_preV hK hW hC hS hA k3 (by decide) (q := (RX7, TX7, 9)) rfl rfl hf) rfl rfl hl.1 rfl (lv_room (Nat.le_of_ble_eq_true rfl)) dX7_hear_4 ⟨Nat.le_of_ble_eq_true rfl, Nat.le_of_ble_eq_true rfl⟩) hW hS hA (fun r2 M1 H locs hW hS hf => ?_)
  refine lv_istore (lv' := [(4, .int r2), (0, .ref v0), (1, .int v1), (2, .int v2), (3, .int v3)]) hx hb dX7_hear_7 hl (by decide) rfl (fun ls hl => ?_)
  refine lv_iload hx hb dX7_hear_9 (lv_at hl 0 rfl) ?_
  refine lv_if_eq (tgt := 17) hx hb dX7_hear_11 (by decide) (fun c4 => ?_) (fun c4 => ?_)
  · replace hf := hf.1 c4
    refine lv_aload_n hx hb dX7_hear_17 rfl (lv_at hl 1 rfl) ?_
    obtain ⟨b5, hb5, hf⟩ := hf
    refine gm_getR (C := RX7) (T := TX7) (N := 9) (j := 6) hx hb hts inT_7 hown hK hW k3 (by decide) rfl (by decide) rfl (hts _ kw_282) rfl dX7_hear_18 hb5 ?_
    refine lv_iload_n hx hb dX7_hear_21 rfl (lv_at hl 2 rfl) ?_
    refine lv_bipush (v := 8) hx hb dX7_hear_22 (by decide +kernel) ?_
    refine lv_imul hx hb dX7_hear_24 ?_
    refine lv_iload_n hx hb dX7_hear_25 rfl (lv_at hl 3 rfl) ?_
    refine lv_iadd hx hb dX7_hear_26 ?_
    refine lv_aload_n hx hb dX7_hear_27 rfl (lv_at hl 1 rfl) ?_
    refine gm_getI (C := RX7) (T := TX7) (N := 9) (j := 0) hx hb hts inT_7 hown hK hW k3 (by decide) rfl (by decide) rfl (hts _ kw_271) rfl dX7_hear_28 ?_
    obtain ⟨k6, hf⟩ := hf
    obtain ⟨h7, hf⟩ := hf
    refine gm_iast hx hb hK hW hS k6 h7 dX7_hear_31 (fun H locs M8 eM8 hW hS => ?_)
    replace hf := hf M8 eM8
    refine lv_aload_n hx hb dX7_hear_32 rfl (lv_at hl 1 rfl) ?_
    obtain ⟨b9, hb9, hf⟩ := hf
    refine gm_getR (C := RX7) (T := TX7) (N := 9) (j := 4) hx hb hts inT_7 hown hK hW k3 (by decide) rfl (by decide) rfl (hts _ kw_279) rfl dX7_hear_33 hb9 ?_
    refine lv_iload_n hx hb dX7_hear_36 rfl (lv_at hl 2 rfl) ?_
    obtain ⟨k10, hf⟩ := hf
    obtain ⟨h11, hf⟩ := hf
    refine gm_iald hx hb hK hW k10 h11 dX7_hear_37 ?_
    refine lv_iload_n hx hb dX7_hear_38 rfl (lv_at hl 3 rfl) ?_
    refine lv_ishr hx hb dX7_hear_39 ?_
    refine lv_iconst (v := 1) hx hb dX7_hear_40 (by decide +kernel) ?_
    refine lv_iand hx hb dX7_hear_41 ?_
    refine lv_iconst (v := 1) hx hb dX7_hear_42 (by decide +kernel) ?_
    have j51 : ∀ (y12 : Int32) (H : Heap) (locs : List Loc) (ls : Array Slot), lv_has ls 5 [] → Wd D cy A Y M8 H → va_S A s.heap H locs → f_X7_hear_51 Y Kn M8 y12 → W p l e rm_X7_hear s m args below meth c H locs 0 0 (MQ below (va_Qi Kn (BG D cy A Y) A) args s 0 0 A) (F0 m 51 ls [.int y12]) := by
      intro y12 H locs ls hl hW hS hf
      unfold f_X7_hear_51 at hf
      exact gm_iret hx hb hr hlocks hW hS hf dX7_hear_51
    refine lv_icmp_ne (tgt := 50) hx hb dX7_hear_43 (by decide) (fun c13 => ?_) (fun c13 => ?_)
    · replace hf := hf.1 c13
      refine lv_iconst (v := 1) hx hb dX7_hear_50 (by decide +kernel) ?_
      exact j51 _ _ _ _ (lv_sub hl [] rfl) hW hS hf
    · replace hf := hf.2 c13
      refine lv_iconst (v := 0) hx hb dX7_hear_46 (by decide +kernel) ?_
      refine lv_goto (tgt := 51) hx hb dX7_hear_47 (by decide) ?_
      exact j51 _ _ _ _ (lv_sub hl [] rfl) hW hS hf
  · replace hf := hf.2 c4
    refine lv_iload hx hb dX7_hear_14 (lv_at hl 0 rfl) ?_
    exact gm_iret hx hb hr hlocks hW hS hf dX7_hear_16

abbrev rm_X7_shareOf : Room := { frames := 3, cells := 0, slots := 0, locals := 102 }
def f_X7_shareOf_19 (Y : Ly) (Kn : Int32 → Mm → Prop) (M5 : Mm) : Prop :=
  Kn 0 M5
def f_X7_shareOf_87 (Y : Ly) (x21 : Int32) (again54 : Int32 → Int32 → Prop) (x28 : Int32) : Prop :=
  ∀ x29 : Int32, x29 = x21 + 1 → (again54 x28 x29)
def L_X7_shareOf_54 (Y : Ly) (v0 : Nat) (Kn : Int32 → Mm → Prop) (r14 : Int32) (M18 : Mm) (r19 : Int32) (x20 : Int32) (x21 : Int32) (again54 : Int32 → Int32 → Prop) : Prop :=
  ∃ b22 : Nat, mR M18 v0 7 = some b22 ∧ (yK Y b22 = 9 ∧ (∃ b24 : Nat, mR M18 b22 1 = some b24 ∧ (yK Y b24 = 104 ∧ ((((nI (yN Y b24)) - 1) ≤ x21 → (Kn x20 M18)) ∧ (¬ (((nI (yN Y b24)) - 1) ≤ x21) → (¬ r14 = 0 ∧ ((¬ (x21 - x21 / r14 * r14) = r19 → (f_X7_shareOf_87 Y x21 again54 x20)) ∧ ((x21 - x21 / r14 * r14) = r19 → (∀ x31 : Int32, x31 = x20 ||| (1 <<< (x21 &&& 31)) → (f_X7_shareOf_87 Y x21 again54 x31))))))))))
def f_X7_shareOf (Y : Ly) (v0 : Nat) (v1 : Int32) (v2 : Int32) (M : Mm) (Kn : Int32 → Mm → Prop) : Prop :=
  yK Y v0 = 7 ∧ (∃ b2 : Nat, mR M v0 2 = some b2 ∧ (yK Y b2 = 101 ∧ (vp_in v1 (yN Y b2) ∧ ((¬ (mI M b2 v1.toNatClampNeg) = 2 → (f_X7_shareOf_19 Y Kn M)) ∧ ((mI M b2 v1.toNatClampNeg) = 2 → (f_X7_hasMember Y v0 v1 v2 M (fun r8 M7 => ((¬ r8 = 0 → (∃ b10 : Nat, mR M7 v0 3 = some b10 ∧ (yK Y b10 = 101 ∧ (vp_in v1 (yN Y b10) ∧ (f_J6_bitCount_0f7a4 Y (mI M7 b10 v1.toNatClampNeg) M7 (fun r14 M13 => (∃ b15 : Nat, mR M13 v0 3 = some b15 ∧ (yK Y b15 = 101 ∧ (vp_in v1 (yN Y b15) ∧ (f_J6_bitCount_0f7a4 Y ((mI M13 b15 v1.toNatClampNeg) &&& ((1 <<< (v2 &&& 31)) - 1)) M13 (fun r19 M18 => (∃ n, LOOP2 (L_X7_shareOf_54 Y v0 Kn r14 M18 r19) n 0 0)))))))))))) ∧ (r8 = 0 → (f_X7_shareOf_19 Y Kn M7))))))))))
set_option maxHeartbeats 4000000 in
set_option maxRecDepth 100000 in
theorem m_X7_shareOf (l : Launch) (D : va_G) (cy : Cy) (tq sz : Nat) (Y : Ly) (v0 : Nat) (v1 : Int32) (v2 : Int32) (M : Mm) (Kn : Int32 → Mm → Prop) : Met l yX7_shareOf (Cond.code yX7_shareOf cX7_shareOf 7 (some .int) :: TT) rm_X7_shareOf (PcG D cy tq [.ref v0, .int v1, .int v2] sz Y M (f_X7_shareOf Y v0 v1 v2 M Kn)) (va_Qi Kn (BG D cy (Am Y sz) Y) (Am Y sz)) 0 0 (Am Y sz) := by
  refine Met.ofW (cc := cX7_shareOf) (maxL := 7) (ret := (some .int)) (by decide) rfl ?_
  intro p e s m args below meth c s₁ B hml hv
  obtain ⟨hargs, hsz, hW, hK, hC, hf⟩ := hv
  subst hsz
  have hx := B.exec
  have hb := B.bytes
  have hr := B.returns
  have hts : ∀ w ∈ TT, w.before args s = true := fun w h => atoms_spec (ws := Cond.code yX7_shareOf cX7_shareOf 7 (some .int) :: TT) B.pre w (List.mem_cons_of_mem _ h)
  have hown : s.vm.findClass RX7 = some m.cls := findClass_of_methodNamed B.named
  have hlocks := B.notSynchronized
  replace hW := Wd_self (sz := s.heap.size) hW
  generalize hAe : Am Y s.heap.size = A at hW hC ⊢
  have hA : ∀ q : Nat, s.heap.size ≤ q → A q := fun q h => by rw [← hAe]; exact Or.inr h
  clear hAe
  have hS : va_S A s.heap s.heap [] := va_S.rf
  obtain ⟨ls, hE, hl⟩ := gm_entry m [.ref v0, .int v1, .int v2] (n := 7) hargs (Nat.le_of_ble_eq_true rfl)
  rw [hE]
  have hl : lv_has ls 7 [(0, .ref v0), (1, .int v1), (2, .int v2)] := hl
  show W p l e rm_X7_shareOf s m args below meth c s.heap [] 0 0 (MQ below (va_Qi Kn (BG D cy A Y) A) args s 0 0 A) (F0 m 0 ls [])
  unfold f_X7_shareOf at hf
  refine lv_aload_n hx hb dX7_shareOf_0 rfl (lv_at hl 0 rfl) ?_
  obtain ⟨k1, hf⟩ := hf
  obtain ⟨b2, hb2, hf⟩ := hf
  refine gm_getR (C := RX7) (T := TX7) (N := 9) (j := 2) hx hb hts inT_7 hown hK hW k1 (by decide) rfl (by decide) rfl (hts _ kw_275) rfl dX7_shareOf_1 hb2 ?_
  refine lv_iload_n hx hb dX7_shareOf_4 rfl (lv_at hl 1 rfl) ?_
  obtain ⟨k3, hf⟩ := hf
  obtain ⟨h4, hf⟩ := hf
  refine gm_iald hx hb hK hW k3 h4 dX7_shareOf_5 ?_
  refine lv_iconst (v := 2) hx hb dX7_shareOf_6 (by decide +kernel) ?_
  have j19 : ∀ (M5 : Mm) (H : Heap) (locs : List Loc) (ls : Array Slot), lv_has ls 7 [] → Wd D cy A Y M5 H → va_S A s.heap H locs → f_X7_shareOf_19 Y Kn M5 → W p l e rm_X7_shareOf s m args below meth c H locs 0 0 (MQ below (va_Qi Kn (BG D cy A Y) A) args s 0 0 A) (F0 m 19 ls []) := by
    intro M5 H locs ls hl hW hS hf
    unfold f_X7_shareOf_19 at hf
    refine lv_iconst (v := 0) hx hb dX7_shareOf_19 (by decide +kernel) ?_
    exact gm_iret hx hb hr hlocks hW hS hf dX7_shareOf_20
  refine lv_icmp_ne (tgt := 19) hx hb dX7_shareOf_7 (by decide) (fun c6 => ?_) (fun c6 => ?_)
  · replace hf := hf.1 c6
    exact j19 _ _ _ _ (lv_sub hl [] rfl) hW hS hf
  · replace hf := hf.2 c6
    refine lv_aload_n hx hb dX7_shareOf_10 rfl (lv_at hl 0 rfl) ?_
    refine lv_iload_n hx hb dX7_shareOf_11 rfl (lv_at hl 1 rfl) ?_
    refine lv_iload_n hx hb dX7_shareOf_12 rfl (lv_at hl 2 rfl) ?_
    refine gm_ci (va_runV (As := [.int v1, .int v2]) (rest := []) ⟨hx, hb, hml, hown, hts⟩ (m_X7_hasMember l D cy tq _ Y _ _ _ _ _) (cwV 2 hts (good_V kw_1181 kw_1182 kw_1818 kw_11 kw_1183) rfl rfl rfl (by decide +kernel) ⟨Nat.le_of_ble_eq_true rfl, Nat.le_of_ble_eq_true rfl⟩) (gm_preV hK hW hC hS hA k1 (by decide) (q := (RX7, TX7, 9)) rfl rfl hf) rfl rfl hl.1 rfl (lv_room (Nat.le_of_ble_eq_true rfl)) dX7_shareOf_13 ⟨Nat.le_of_ble_eq_true rfl, Nat.le_of_ble_eq_true rfl⟩) hW hS hA (fun r8 M7 H locs hW hS hf => ?_)
    refine lv_if_ne (tgt := 21) hx hb dX7_shareOf_16 (by decide) (fun c9 => ?_) (fun c9 => ?_)
    · replace hf := hf.1 c9
      refine lv_aload_n hx hb dX7_shareOf_21 rfl (lv_at hl 0 rfl) ?_
      obtain ⟨b10, hb10, hf⟩ := hf
      refine gm_getR (C := RX7) (T := TX7) (N := 9) (j := 3) hx hb hts inT_7 hown hK hW k1 (by decide) rfl (by decide) rfl (hts _ kw_277) rfl dX7_shareOf_22 hb10 ?_
      refine lv_iload_n hx hb dX7_shareOf_25 rfl (lv_at hl 1 rfl) ?_
      obtain ⟨k11, hf⟩ := hf
      obtain ⟨h12, hf⟩ := hf
      refine gm_iald hx hb hK hW k11 h12 dX7_shareOf_26 ?_
      refine gm_ci (va_runS (As := [.int (mI M7 b10 v1.toNatClampNeg)]) (rest := []) ⟨hx, hb, hml, hown, hts⟩ (m_J6_bitCount_0f7a4 l D cy tq _ Y _ _ _) (va_cwS 1 hts (good_S kw_1215 kw_1216 kw_29 kw_1217) rfl rfl rfl (by decide +kernel) ⟨Nat.le_of_ble_eq_true rfl, Nat.le_of_ble_eq_true rfl⟩) (gm_preS hK hW hC hS hA hf) rfl rfl hl.1 rfl (lv_room (Nat.le_of_ble_eq_true rfl)) dX7_shareOf_27 ⟨Nat.le_of_ble_eq_true rfl, Nat.le_of_ble_eq_true rfl⟩) hW hS hA (fun r14 M13 H locs hW hS hf => ?_)
      refine lv_istore_n (lv' := [(3, .int r14), (0, .ref v0), (1, .int v1), (2, .int v2)]) hx hb dX7_shareOf_30 rfl hl (by decide) rfl (fun ls hl => ?_)
      refine lv_aload_n hx hb dX7_shareOf_31 rfl (lv_at hl 1 rfl) ?_
      obtain ⟨b15, hb15, hf⟩ := hf
      refine gm_getR (C := RX7) (T := TX7) (N := 9) (j := 3) hx hb hts inT_7 hown hK hW k1 (by decide) rfl (by decide) rfl (hts _ kw_277) rfl dX7_shareOf_32 hb15 ?_
      refine lv_iload_n hx hb dX7_shareOf_35 rfl (lv_at hl 2 rfl) ?_
      obtain ⟨k16, hf⟩ := hf
      obtain ⟨h17, hf⟩ := hf
      refine gm_iald hx hb hK hW k16 h17 dX7_shareOf_36 ?_
      refine lv_iconst (v := 1) hx hb dX7_shareOf_37 (by decide +kernel) ?_
      refine lv_iload_n hx hb dX7_shareOf_38 rfl (lv_at hl 3 rfl) ?_
      refine lv_ishl hx hb dX7_shareOf_39 ?_
      refine lv_iconst (v := 1) hx hb dX7_shareOf_40 (by decide +kernel) ?_
      refine lv_isub hx hb dX7_shareOf_41 ?_
      refine lv_iand hx hb dX7_shareOf_42 ?_
      refine gm_ci (va_runS (As := [.int ((mI M13 b15 v1.toNatClampNeg) &&& ((1 <<< (v2 &&& 31)) - 1))]) (rest := []) ⟨hx, hb, hml, hown, hts⟩ (m_J6_bitCount_0f7a4 l D cy tq _ Y _ _ _) (va_cwS 1 hts (good_S kw_1215 kw_1216 kw_29 kw_1217) rfl rfl rfl (by decide +kernel) ⟨Nat.le_of_ble_eq_true rfl, Nat.le_of_ble_eq_true rfl⟩) (gm_preS hK hW hC hS hA hf) rfl rfl hl.1 rfl (lv_room (Nat.le_of_ble_eq_true rfl)) dX7_shareOf_43 ⟨Nat.le_of_ble_eq_true rfl, Nat.le_of_ble_eq_true rfl⟩) hW hS hA (fun r19 M18 H locs hW hS hf => ?_)
      refine lv_istore (lv' := [(4, .int r19), (3, .int r14), (0, .ref v0), (1, .int v1), (2, .int v2)]) hx hb dX7_shareOf_46 hl (by decide) rfl (fun ls hl => ?_)
      refine lv_iconst (v := 0) hx hb dX7_shareOf_48 (by decide +kernel) ?_
      refine lv_istore (lv' := [(5, .int 0), (4, .int r19), (3, .int r14), (0, .ref v0), (1, .int v1), (2, .int v2)]) hx hb dX7_shareOf_49 hl (by decide) rfl (fun ls hl => ?_)
      refine lv_iconst (v := 0) hx hb dX7_shareOf_51 (by decide +kernel) ?_
      refine lv_istore (lv' := [(6, .int 0), (5, .int 0), (4, .int r19), (3, .int r14), (0, .ref v0), (1, .int v1), (2, .int v2)]) hx hb dX7_shareOf_52 hl (by decide) rfl (fun ls hl => ?_)
      obtain ⟨n54, hf⟩ := hf
      have lp54 : ∀ (n54 : Nat) (x20 : Int32) (x21 : Int32) (H : Heap) (locs : List Loc) (ls : Array Slot), lv_has ls 7 [(0, .ref v0), (3, .int r14), (4, .int r19), (5, .int x20), (6, .int x21)] → Wd D cy A Y M18 H → va_S A s.heap H locs → LOOP2 (L_X7_shareOf_54 Y v0 Kn r14 M18 r19) n54 x20 x21 → W p l e rm_X7_shareOf s m args below meth c H locs 0 0 (MQ below (va_Qi Kn (BG D cy A Y) A) args s 0 0 A) (F0 m 54 ls []) := by
        intro n54
        induction n54 with
        | zero => intro x20 x21 H locs ls hl hW hS hf; exact hf.elim
        | succ n54 ih54 =>
          intro x20 x21 H locs ls hl hW hS hf
          replace hf : L_X7_shareOf_54 Y v0 Kn r14 M18 r19 x20 x21 (LOOP2 (L_X7_shareOf_54 Y v0 Kn r14 M18 r19) n54) := hf
          unfold L_X7_shareOf_54 at hf
          refine lv_iload hx hb dX7_shareOf_54 (lv_at hl 4 rfl) ?_
          refine lv_aload_n hx hb dX7_shareOf_56 rfl (lv_at hl 0 rfl) ?_
          obtain ⟨b22, hb22, hf⟩ := hf
          refine gm_getR (C := RX7) (T := TX7) (N := 9) (j := 7) hx hb hts inT_7 hown hK hW k1 (by decide) rfl (by decide) rfl (hts _ kw_283) rfl dX7_shareOf_57 hb22 ?_
          obtain ⟨k23, hf⟩ := hf
          obtain ⟨b24, hb24, hf⟩ := hf
          refine gm_getR (C := RX9) (T := TX9) (N := 7) (j := 1) hx hb hts inT_9 hown hK hW k23 (by decide) rfl (by decide) rfl (hts _ kw_217) rfl dX7_shareOf_60 hb24 ?_
          obtain ⟨k25, hf⟩ := hf
          refine gm_alen hx hb hK hW (by rw [k25]; decide) dX7_shareOf_63 ?_
          refine lv_iconst (v := 1) hx hb dX7_shareOf_64 (by decide +kernel) ?_
          refine lv_isub hx hb dX7_shareOf_65 ?_
          refine lv_icmp_ge (tgt := 93) hx hb dX7_shareOf_66 (by decide) (fun c26 => ?_) (fun c26 => ?_)
          · replace hf := hf.1 c26
            refine lv_iload hx hb dX7_shareOf_93 (lv_at hl 3 rfl) ?_
            exact gm_iret hx hb hr hlocks hW hS hf dX7_shareOf_95
          · replace hf := hf.2 c26
            refine lv_iload hx hb dX7_shareOf_69 (lv_at hl 4 rfl) ?_
            refine lv_iload_n hx hb dX7_shareOf_71 rfl (lv_at hl 1 rfl) ?_
            obtain ⟨h27, hf⟩ := hf
            refine lv_irem hx hb dX7_shareOf_72 h27 ?_
            refine lv_iload hx hb dX7_shareOf_73 (lv_at hl 2 rfl) ?_
            have j87 : ∀ (x28 : Int32) (H : Heap) (locs : List Loc) (ls : Array Slot), lv_has ls 7 [(0, .ref v0), (3, .int r14), (4, .int r19), (5, .int x28), (6, .int x21)] → Wd D cy A Y M18 H → va_S A s.heap H locs → f_X7_shareOf_87 Y x21 (LOOP2 (L_X7_shareOf_54 Y v0 Kn r14 M18 r19) n54) x28 → W p l e rm_X7_shareOf s m args below meth c H locs 0 0 (MQ below (va_Qi Kn (BG D cy A Y) A) args s 0 0 A) (F0 m 87 ls []) := by
              intro x28 H locs ls hl hW hS hf
              unfold f_X7_shareOf_87 at hf
              obtain ⟨x29, ex29⟩ : ∃ y : Int32, y = x21 + 1 := ⟨_, rfl⟩
              replace hf := hf x29 ex29
              refine lv_iinc (v := x29) (lv' := [(6, .int x29), (0, .ref v0), (3, .int r14), (4, .int r19), (5, .int x28)]) hx hb dX7_shareOf_87 hl (k := 4) rfl (by rw [ex29]; rfl) (by decide) rfl (fun ls hl => ?_)
              refine lv_goto (tgt := 54) hx hb dX7_shareOf_90 (by decide) ?_
              exact ih54 _ _ _ _ _ (lv_sub hl [1, 2, 3, 4, 0] rfl) hW hS hf
            refine lv_icmp_ne (tgt := 87) hx hb dX7_shareOf_75 (by decide) (fun c30 => ?_) (fun c30 => ?_)
            · replace hf := hf.1 c30
              exact j87 _ _ _ _ (lv_sub hl [0, 1, 2, 3, 4] rfl) hW hS hf
            · replace hf := hf.2 c30
              refine lv_iload hx hb dX7_shareOf_78 (lv_at hl 3 rfl) ?_
              refine lv_iconst (v := 1) hx hb dX7_shareOf_80 (by decide +kernel) ?_
              refine lv_iload hx hb dX7_shareOf_81 (lv_at hl 4 rfl) ?_
              refine lv_ishl hx hb dX7_shareOf_83 ?_
              refine lv_ior hx hb dX7_shareOf_84 ?_
              refine lv_topi (fun x31 ex31 => ?_)
              replace hf := hf x31 ex31
              refine lv_istore (lv' := [(5, .int x31), (0, .ref v0), (3, .int r14), (4, .int r19), (6, .int x21)]) hx hb dX7_shareOf_85 hl (by decide) rfl (fun ls hl => ?_)
              exact j87 _ _ _ _ (lv_sub hl [1, 2, 3, 0, 4] rfl) hW hS hf
      exact lp54 n54 _ _ _ _ _ (lv_sub hl [4, 3, 2, 1, 0] rfl) hW hS hf
    · replace hf := hf.2 c9
      exact j19 _ _ _ _ (lv_sub hl [] rfl) hW hS hf

abbrev rm_X7_commitOffset : Room := { frames := 6, cells := 0, slots := 0, locals := 178 }
def f_X7_commitOffset (Y : Ly) (v0 : Nat) (v1 : Int32) (v2 : Int32) (v3 : Int32) (v4 : Int64) (M : Mm) (Kn : Int32 → Mm → Prop) : Prop :=
  yK Y v0 = 7 ∧ (∃ b2 : Nat, mR M v0 2 = some b2 ∧ (yK Y b2 = 101 ∧ (vp_in v1 (yN Y b2) ∧ (((mI M b2 v1.toNatClampNeg) = 2 → (f_X7_shareOf Y v0 v1 v2 M (fun r7 M6 => ((¬ ((r7 >>> (v3 &&& 31)) &&& 1) = 0 → (∃ b9 : Nat, mR M6 v0 7 = some b9 ∧ (yK Y b9 = 9 ∧ (∃ b11 : Nat, mR M6 b9 1 = some b11 ∧ (yK Y b11 = 104 ∧ (vp_in v3 (yN Y b11) ∧ (∃ b14 : Nat, mR M6 b11 v3.toNatClampNeg = some b14 ∧ (yK Y b14 = 8 ∧ (f_X8_holds Y b14 v4 M6 (fun r16 M15 => ((¬ r16 = 0 → (∃ b19 : Nat, mR M15 v0 7 = some b19 ∧ (∃ b20 : Nat, mR M15 v0 7 = some b20 ∧ (yK Y b20 = 9 ∧ (f_X9_own Y b20 M15 (fun r22 M21 => (f_X7_filledNote Y v0 v1 v3 v4 M21 (fun r25 M24 => (yK Y b19 = 9 ∧ (f_X9_append Y b19 r22 r25 78 M24 (fun r27 M26 => ((0 ≤ r27 → (∃ b30 : Nat, mR M26 v0 6 = some b30 ∧ (yK Y b30 = 101 ∧ (vp_in ((v1 * 8) + v2) (yN Y b30) ∧ (∀ M33 : Mm, M33 = sI M26 b30 (m1 (mI M26 b30) ((v1 * 8) + v2).toNatClampNeg (mI M26 v0 0)) → (Kn 0 M33)))))) ∧ (¬ (0 ≤ r27) → (Kn r27.toInt32 M26)))))))))))))) ∧ (r16 = 0 → (Kn (-12) M15))))))))))))) ∧ (((r7 >>> (v3 &&& 31)) &&& 1) = 0 → (Kn (-11) M6)))))) ∧ (¬ ((mI M b2 v1.toNatClampNeg) = 2) → (Kn (-10) M))))))
set_option maxHeartbeats 4000000 in
set_option maxRecDepth 100000 in
theorem m_X7_commitOffset (l : Launch) (D : va_G) (cy : Cy) (tq sz : Nat) (Y : Ly) (v0 : Nat) (v1 : Int32) (v2 : Int32) (v3 : Int32) (v4 : Int64) (M : Mm) (Kn : Int32 → Mm → Prop) : Met l yX7_commitOffset (Cond.code yX7_commitOffset cX7_commitOffset 8 (some .int) :: TT) rm_X7_commitOffset (PcG D cy tq [.ref v0, .int v1, .int v2, .int v3, .long v4] sz Y M (f_X7_commitOffset Y v0 v1 v2 v3 v4 M Kn)) (va_Qi Kn (BG D cy (Am Y sz) Y) (Am Y sz)) 0 0 (Am Y sz) := by
  refine Met.ofW (cc := cX7_commitOffset) (maxL := 8) (ret := (some .int)) (by decide) rfl ?_
  intro p e s m args below meth c s₁ B hml hv
  obtain ⟨hargs, hsz, hW, hK, hC, hf⟩ := hv
  subst hsz
  have hx := B.exec
  have hb := B.bytes
  have hr := B.returns
  have hts : ∀ w ∈ TT, w.before args s = true := fun w h => atoms_spec (ws := Cond.code yX7_commitOffset cX7_commitOffset 8 (some .int) :: TT) B.pre w (List.mem_cons_of_mem _ h)
  have hown : s.vm.findClass RX7 = some m.cls := findClass_of_methodNamed B.named
  have hlocks := B.notSynchronized
  replace hW := Wd_self (sz := s.heap.size) hW
  generalize hAe : Am Y s.heap.size = A at hW hC ⊢
  have hA : ∀ q : Nat, s.heap.size ≤ q → A q := fun q h => by rw [← hAe]; exact Or.inr h
  clear hAe
  have hS : va_S A s.heap s.heap [] := va_S.rf
  obtain ⟨ls, hE, hl⟩ := gm_entry m [.ref v0, .int v1, .int v2, .int v3, .long v4] (n := 8) hargs (Nat.le_of_ble_eq_true rfl)
  rw [hE]
  have hl : lv_has ls 8 [(0, .ref v0), (1, .int v1), (2, .int v2), (3, .int v3), (4, .long v4)] := hl
  show W p l e rm_X7_commitOffset s m args below meth c s.heap [] 0 0 (MQ below (va_Qi Kn (BG D cy A Y) A) args s 0 0 A) (F0 m 0 ls [])
  unfold f_X7_commitOffset at hf
  refine lv_aload_n hx hb dX7_commitOffset_0 rfl (lv_at hl 0 rfl) ?_
  obtain ⟨k1, hf⟩ := hf
  obtain ⟨b2, hb2, hf⟩ := hf
  refine gm_getR (C := RX7) (T := TX7) (N := 9) (j := 2) hx hb hts inT_7 hown hK hW k1 (by decide) rfl (by decide) rfl (hts _ kw_275) rfl dX7_commitOffset_1 hb2 ?_
  refine lv_iload_n hx hb dX7_commitOffset_4 rfl (lv_at hl 1 rfl) ?_
  obtain ⟨k3, hf⟩ := hf
  obtain ⟨h4, hf⟩ := hf
  refine gm_iald hx hb hK hW k3 h4 dX7_commitOffset_5 ?_
  refine lv_iconst (v := 2) hx hb dX7_commitOffset_6 (by decide +kernel) ?_
  refine lv_icmp_eq (tgt := 13) hx hb dX7_commitOffset_7 (by decide) (fun c5 => ?_) (fun c5 => ?_)
  · replace hf := hf.1 c5
    refine lv_aload_n hx hb dX7_commitOffset_13 rfl (lv_at hl 0 rfl) ?_
    refine lv_iload_n hx hb dX7_commitOffset_14 rfl (lv_at hl 1 rfl) ?_
    refine lv_iload_n hx hb dX7_commitOffset_15 rfl (lv_at hl 2 rfl) ?_
    refine gm_ci (va_runV (As := [.int v1, .int v2]) (rest := []) ⟨hx, hb, hml, hown, hts⟩ (m_X7_shareOf l D cy tq _ Y _ _ _ _ _) (cwV 2 hts (good_V kw_1211 kw_1212 kw_1213 kw_11 kw_1214) rfl rfl rfl (by decide +kernel) ⟨Nat.le_of_ble_eq_true rfl, Nat.le_of_ble_eq_true rfl⟩) (gm_preV hK hW hC hS hA k1 (by decide) (q := (RX7, TX7, 9)) rfl rfl hf) rfl rfl hl.1 rfl (lv_room (Nat.le_of_ble_eq_true rfl)) dX7_commitOffset_16 ⟨Nat.le_of_ble_eq_true rfl, Nat.le_of_ble_eq_true rfl⟩) hW hS hA (fun r7 M6 H locs hW hS hf => ?_)
    refine lv_iload_n hx hb dX7_commitOffset_19 rfl (lv_at hl 3 rfl) ?_
    refine lv_ishr hx hb dX7_commitOffset_20 ?_
    refine lv_iconst (v := 1) hx hb dX7_commitOffset_21 (by decide +kernel) ?_
    refine lv_iand hx hb dX7_commitOffset_22 ?_
    refine lv_if_ne (tgt := 29) hx hb dX7_commitOffset_23 (by decide) (fun c8 => ?_) (fun c8 => ?_)
    · replace hf := hf.1 c8
      refine lv_aload_n hx hb dX7_commitOffset_29 rfl (lv_at hl 0 rfl) ?_
      obtain ⟨b9, hb9, hf⟩ := hf
      refine gm_getR (C := RX7) (T := TX7) (N := 9) (j := 7) hx hb hts inT_7 hown hK hW k1 (by decide) rfl (by decide) rfl (hts _ kw_283) rfl dX7_commitOffset_30 hb9 ?_
      obtain ⟨k10, hf⟩ := hf
      obtain ⟨b11, hb11, hf⟩ := hf
      refine gm_getR (C := RX9) (T := TX9) (N := 7) (j := 1) hx hb hts inT_9 hown hK hW k10 (by decide) rfl (by decide) rfl (hts _ kw_217) rfl dX7_commitOffset_33 hb11 ?_
      refine lv_iload_n hx hb dX7_commitOffset_36 rfl (lv_at hl 3 rfl) ?_
      obtain ⟨k12, hf⟩ := hf
      obtain ⟨h13, hf⟩ := hf
      obtain ⟨b14, hb14, hf⟩ := hf
      refine gm_aald hx hb hK hW k12 h13 hb14 dX7_commitOffset_37 ?_
      refine lv_lload hx hb dX7_commitOffset_38 (lv_at hl 4 rfl) ?_
      obtain ⟨k17, hf⟩ := hf
      refine gm_ci (va_runV (As := [.long v4]) (rest := []) ⟨hx, hb, hml, hown, hts⟩ (m_X8_holds l D cy tq _ Y _ _ _ _) (cwV 1 hts (good_V kw_1221 kw_969 kw_970 kw_9 kw_971) rfl rfl rfl (by decide +kernel) ⟨Nat.le_of_ble_eq_true rfl, Nat.le_of_ble_eq_true rfl⟩) (gm_preV hK hW hC hS hA k17 (by decide) (q := (RX8, TX8, 9)) rfl rfl hf) rfl rfl hl.1 rfl (lv_room (Nat.le_of_ble_eq_true rfl)) dX7_commitOffset_40 ⟨Nat.le_of_ble_eq_true rfl, Nat.le_of_ble_eq_true rfl⟩) hW hS hA (fun r16 M15 H locs hW hS hf => ?_)
      refine lv_if_ne (tgt := 49) hx hb dX7_commitOffset_43 (by decide) (fun c18 => ?_) (fun c18 => ?_)
      · replace hf := hf.1 c18
        refine lv_aload_n hx hb dX7_commitOffset_49 rfl (lv_at hl 0 rfl) ?_
        obtain ⟨b19, hb19, hf⟩ := hf
        refine gm_getR (C := RX7) (T := TX7) (N := 9) (j := 7) hx hb hts inT_7 hown hK hW k1 (by decide) rfl (by decide) rfl (hts _ kw_283) rfl dX7_commitOffset_50 hb19 ?_
        refine lv_aload_n hx hb dX7_commitOffset_53 rfl (lv_at hl 0 rfl) ?_
        obtain ⟨b20, hb20, hf⟩ := hf
        refine gm_getR (C := RX7) (T := TX7) (N := 9) (j := 7) hx hb hts inT_7 hown hK hW k1 (by decide) rfl (by decide) rfl (hts _ kw_283) rfl dX7_commitOffset_54 hb20 ?_
        obtain ⟨k23, hf⟩ := hf
        refine gm_cr (va_runV (As := []) (rest := [.ref b19]) ⟨hx, hb, hml, hown, hts⟩ (m_X9_own l D cy tq _ Y _ _ _) (cwV 0 hts (good_V kw_374 kw_375 kw_376 kw_8 kw_377) rfl rfl rfl (by decide +kernel) ⟨Nat.le_of_ble_eq_true rfl, Nat.le_of_ble_eq_true rfl⟩) (gm_preV hK hW hC hS hA k23 (by decide) (q := (RX9, TX9, 7)) rfl rfl hf) rfl rfl hl.1 rfl (lv_room (Nat.le_of_ble_eq_true rfl)) dX7_commitOffset_57 ⟨Nat.le_of_ble_eq_true rfl, Nat.le_of_ble_eq_true rfl⟩) hW hS hA (fun r22 M21 H locs hW hS hf => ?_)
        refine lv_aload_n hx hb dX7_commitOffset_60 rfl (lv_at hl 0 rfl) ?_
        refine lv_iload_n hx hb dX7_commitOffset_61 rfl (lv_at hl 1 rfl) ?_
        refine lv_iload_n hx hb dX7_commitOffset_62 rfl (lv_at hl 3 rfl) ?_
        refine lv_lload hx hb dX7_commitOffset_63 (lv_at hl 4 rfl) ?_
        refine gm_cr (va_runV (As := [.int v1, .int v3, .long v4]) (rest := [.ref r22, .ref b19]) ⟨hx, hb, hml, hown, hts⟩ (m_X7_filledNote l D cy tq _ Y _ _ _ _ _ _) (cwV 3 hts (good_V kw_1155 kw_1156 kw_1817 kw_11 kw_1157) rfl rfl rfl (by decide +kernel) ⟨Nat.le_of_ble_eq_true rfl, Nat.le_of_ble_eq_true rfl⟩) (gm_preV hK hW hC hS hA k1 (by decide) (q := (RX7, TX7, 9)) rfl rfl hf) rfl rfl hl.1 rfl (lv_room (Nat.le_of_ble_eq_true rfl)) dX7_commitOffset_65 ⟨Nat.le_of_ble_eq_true rfl, Nat.le_of_ble_eq_true rfl⟩) hW hS hA (fun r25 M24 H locs hW hS hf => ?_)
        refine lv_bipush (v := 78) hx hb dX7_commitOffset_68 (by decide +kernel) ?_
        obtain ⟨k28, hf⟩ := hf
        refine gm_cl (va_runV (As := [.ref r22, .ref r25, .int 78]) (rest := []) ⟨hx, hb, hml, hown, hts⟩ (m_X9_append l D cy tq _ Y _ _ _ _ _ _) (cwV 3 hts (good_V kw_1166 kw_893 kw_894 kw_8 kw_895) rfl rfl rfl (by decide +kernel) ⟨Nat.le_of_ble_eq_true rfl, Nat.le_of_ble_eq_true rfl⟩) (gm_preV hK hW hC hS hA k28 (by decide) (q := (RX9, TX9, 7)) rfl rfl hf) rfl rfl hl.1 rfl (lv_room (Nat.le_of_ble_eq_true rfl)) dX7_commitOffset_70 ⟨Nat.le_of_ble_eq_true rfl, Nat.le_of_ble_eq_true rfl⟩) hW hS hA (fun r27 M26 H locs hW hS hf => ?_)
        refine lv_lstore (lv' := [(6, .long r27), (0, .ref v0), (1, .int v1), (2, .int v2), (3, .int v3), (4, .long v4)]) hx hb dX7_commitOffset_73 hl (by decide) rfl (fun ls hl => ?_)
        refine lv_lload hx hb dX7_commitOffset_75 (lv_at hl 0 rfl) ?_
        refine lv_lconst (v := 0) hx hb dX7_commitOffset_77 (by decide) ?_
        refine W.lcmp hx hb dX7_commitOffset_78 ?_
        refine lv_if_ge (tgt := 86) hx hb dX7_commitOffset_79 (by decide) (fun c29 => ?_) (fun c29 => ?_)
        · replace hf := hf.1 (lg_ge.mp c29)
          refine lv_aload_n hx hb dX7_commitOffset_86 rfl (lv_at hl 1 rfl) ?_
          obtain ⟨b30, hb30, hf⟩ := hf
          refine gm_getR (C := RX7) (T := TX7) (N := 9) (j := 6) hx hb hts inT_7 hown hK hW k1 (by decide) rfl (by decide) rfl (hts _ kw_282) rfl dX7_commitOffset_87 hb30 ?_
          refine lv_iload_n hx hb dX7_commitOffset_90 rfl (lv_at hl 2 rfl) ?_
          refine lv_bipush (v := 8) hx hb dX7_commitOffset_91 (by decide +kernel) ?_
          refine lv_imul hx hb dX7_commitOffset_93 ?_
          refine lv_iload_n hx hb dX7_commitOffset_94 rfl (lv_at hl 3 rfl) ?_
          refine lv_iadd hx hb dX7_commitOffset_95 ?_
          refine lv_aload_n hx hb dX7_commitOffset_96 rfl (lv_at hl 1 rfl) ?_
          refine gm_getI (C := RX7) (T := TX7) (N := 9) (j := 0) hx hb hts inT_7 hown hK hW k1 (by decide) rfl (by decide) rfl (hts _ kw_271) rfl dX7_commitOffset_97 ?_
          obtain ⟨k31, hf⟩ := hf
          obtain ⟨h32, hf⟩ := hf
          refine gm_iast hx hb hK hW hS k31 h32 dX7_commitOffset_100 (fun H locs M33 eM33 hW hS => ?_)
          replace hf := hf M33 eM33
          refine lv_iconst (v := 0) hx hb dX7_commitOffset_101 (by decide +kernel) ?_
          exact gm_iret hx hb hr hlocks hW hS hf dX7_commitOffset_102
        · replace hf := hf.2 (fun z => c29 (lg_ge.mpr z))
          refine lv_lload hx hb dX7_commitOffset_82 (lv_at hl 0 rfl) ?_
          refine lv_l2i hx hb dX7_commitOffset_84 rfl ?_
          exact gm_iret hx hb hr hlocks hW hS hf dX7_commitOffset_85
      · replace hf := hf.2 c18
        refine lv_bipush (v := -12) hx hb dX7_commitOffset_46 (by decide +kernel) ?_
        exact gm_iret hx hb hr hlocks hW hS hf dX7_commitOffset_48
    · replace hf := hf.2 c8
      refine lv_bipush (v := -11) hx hb dX7_commitOffset_26 (by decide +kernel) ?_
      exact gm_iret hx hb hr hlocks hW hS hf dX7_commitOffset_28
  · replace hf := hf.2 c5
    refine lv_bipush (v := -10) hx hb dX7_commitOffset_10 (by decide +kernel) ?_
    exact gm_iret hx hb hr hlocks hW hS hf dX7_commitOffset_12

abbrev rm_X7_ticksLeft : Room := { frames := 2, cells := 0, slots := 0, locals := 80 }
def f_X7_ticksLeft_29 (Y : Ly) (Kn : Int32 → Mm → Prop) (y5 : Int32) (M6 : Mm) : Prop :=
  Kn y5 M6
def f_X7_ticksLeft (Y : Ly) (v0 : Nat) (v1 : Int32) (M : Mm) (Kn : Int32 → Mm → Prop) : Prop :=
  yK Y v0 = 7 ∧ (∃ b2 : Nat, mR M v0 2 = some b2 ∧ (yK Y b2 = 101 ∧ (vp_in v1 (yN Y b2) ∧ ((¬ (mI M b2 v1.toNatClampNeg) = 1 → (f_X7_ticksLeft_29 Y Kn 0 M)) ∧ ((mI M b2 v1.toNatClampNeg) = 1 → (∃ b8 : Nat, mR M v0 5 = some b8 ∧ (yK Y b8 = 101 ∧ (vp_in v1 (yN Y b8) ∧ (f_X7_ticksLeft_29 Y Kn (if 0 < ((mI M b8 v1.toNatClampNeg) - (mI M v0 0)) then ((mI M b8 v1.toNatClampNeg) - (mI M v0 0)) else 0) M)))))))))
set_option maxHeartbeats 4000000 in
set_option maxRecDepth 100000 in
theorem m_X7_ticksLeft (l : Launch) (D : va_G) (cy : Cy) (tq sz : Nat) (Y : Ly) (v0 : Nat) (v1 : Int32) (M : Mm) (Kn : Int32 → Mm → Prop) : Met l yX7_ticksLeft (Cond.code yX7_ticksLeft cX7_ticksLeft 2 (some .int) :: TT) rm_X7_ticksLeft (PcG D cy tq [.ref v0, .int v1] sz Y M (f_X7_ticksLeft Y v0 v1 M Kn)) (va_Qi Kn (BG D cy (Am Y sz) Y) (Am Y sz)) 0 0 (Am Y sz) := by
  refine Met.ofW (cc := cX7_ticksLeft) (maxL := 2) (ret := (some .int)) (by decide) rfl ?_
  intro p e s m args below meth c s₁ B hml hv
  obtain ⟨hargs, hsz, hW, hK, hC, hf⟩ := hv
  subst hsz
  have hx := B.exec
  have hb := B.bytes
  have hr := B.returns
  have hts : ∀ w ∈ TT, w.before args s = true := fun w h => atoms_spec (ws := Cond.code yX7_ticksLeft cX7_ticksLeft 2 (some .int) :: TT) B.pre w (List.mem_cons_of_mem _ h)
  have hown : s.vm.findClass RX7 = some m.cls := findClass_of_methodNamed B.named
  have hlocks := B.notSynchronized
  replace hW := Wd_self (sz := s.heap.size) hW
  generalize hAe : Am Y s.heap.size = A at hW hC ⊢
  have hA : ∀ q : Nat, s.heap.size ≤ q → A q := fun q h => by rw [← hAe]; exact Or.inr h
  clear hAe
  have hS : va_S A s.heap s.heap [] := va_S.rf
  obtain ⟨ls, hE, hl⟩ := gm_entry m [.ref v0, .int v1] (n := 2) hargs (Nat.le_of_ble_eq_true rfl)
  rw [hE]
  have hl : lv_has ls 2 [(0, .ref v0), (1, .int v1)] := hl
  show W p l e rm_X7_ticksLeft s m args below meth c s.heap [] 0 0 (MQ below (va_Qi Kn (BG D cy A Y) A) args s 0 0 A) (F0 m 0 ls [])
  unfold f_X7_ticksLeft at hf
  refine lv_aload_n hx hb dX7_ticksLeft_0 rfl (lv_at hl 0 rfl) ?_
  obtain ⟨k1, hf⟩ := hf
  obtain ⟨b2, hb2, hf⟩ := hf
  refine gm_getR (C := RX7) (T := TX7) (N := 9) (j := 2) hx hb hts inT_7 hown hK hW k1 (by decide) rfl (by decide) rfl (hts _ kw_275) rfl dX7_ticksLeft_1 hb2 ?_
  refine lv_iload_n hx hb dX7_ticksLeft_4 rfl (lv_at hl 1 rfl) ?_
  obtain ⟨k3, hf⟩ := hf
  obtain ⟨h4, hf⟩ := hf
  refine gm_iald hx hb hK hW k3 h4 dX7_ticksLeft_5 ?_
  refine lv_iconst (v := 1) hx hb dX7_ticksLeft_6 (by decide +kernel) ?_
  have j29 : ∀ (y5 : Int32) (M6 : Mm) (H : Heap) (locs : List Loc) (ls : Array Slot), lv_has ls 2 [] → Wd D cy A Y M6 H → va_S A s.heap H locs → f_X7_ticksLeft_29 Y Kn y5 M6 → W p l e rm_X7_ticksLeft s m args below meth c H locs 0 0 (MQ below (va_Qi Kn (BG D cy A Y) A) args s 0 0 A) (F0 m 29 ls [.int y5]) := by
    intro y5 M6 H locs ls hl hW hS hf
    unfold f_X7_ticksLeft_29 at hf
    exact gm_iret hx hb hr hlocks hW hS hf dX7_ticksLeft_29
  refine lv_icmp_ne (tgt := 28) hx hb dX7_ticksLeft_7 (by decide) (fun c7 => ?_) (fun c7 => ?_)
  · replace hf := hf.1 c7
    refine lv_iconst (v := 0) hx hb dX7_ticksLeft_28 (by decide +kernel) ?_
    exact j29 _ _ _ _ _ (lv_sub hl [] rfl) hW hS hf
  · replace hf := hf.2 c7
    refine lv_iconst (v := 0) hx hb dX7_ticksLeft_10 (by decide +kernel) ?_
    refine lv_aload_n hx hb dX7_ticksLeft_11 rfl (lv_at hl 0 rfl) ?_
    obtain ⟨b8, hb8, hf⟩ := hf
    refine gm_getR (C := RX7) (T := TX7) (N := 9) (j := 5) hx hb hts inT_7 hown hK hW k1 (by decide) rfl (by decide) rfl (hts _ kw_281) rfl dX7_ticksLeft_12 hb8 ?_
    refine lv_iload_n hx hb dX7_ticksLeft_15 rfl (lv_at hl 1 rfl) ?_
    obtain ⟨k9, hf⟩ := hf
    obtain ⟨h10, hf⟩ := hf
    refine gm_iald hx hb hK hW k9 h10 dX7_ticksLeft_16 ?_
    refine lv_aload_n hx hb dX7_ticksLeft_17 rfl (lv_at hl 0 rfl) ?_
    refine gm_getI (C := RX7) (T := TX7) (N := 9) (j := 0) hx hb hts inT_7 hown hK hW k1 (by decide) rfl (by decide) rfl (hts _ kw_271) rfl dX7_ticksLeft_18 ?_
    refine lv_isub hx hb dX7_ticksLeft_21 ?_
    refine va_mmax hx hb (by rw [hml]; exact hl.1.symm) hown (hts _ kw_1242) (hts _ kw_134) (hts _ kw_6) (hts _ kmath_maxI) (Nat.le_of_ble_eq_true rfl) (Nat.le_of_ble_eq_true rfl) (Nat.zero_le _) (Nat.zero_le _) dX7_ticksLeft_22 ?_
    refine lv_goto (tgt := 29) hx hb dX7_ticksLeft_25 (by decide) ?_
    exact j29 _ _ _ _ _ (lv_sub hl [] rfl) hW hS hf

abbrev rm_X7_dropSilent : Room := { frames := 3, cells := 0, slots := 0, locals := 102 }
def f_X7_dropSilent_97 (Y : Ly) (Kn : Mm → Prop) (M10 : Mm) : Prop :=
  Kn M10
def f_X7_dropSilent_57 (Y : Ly) (x7 : Int32) (again15 : Int32 → Int32 → Mm → Prop) (M22 : Mm) (x24 : Int32) : Prop :=
  ∀ x25 : Int32, x25 = x7 + 1 → (again15 x24 x25 M22)
def L_X7_dropSilent_15 (Y : Ly) (v0 : Nat) (v1 : Int32) (Kn : Mm → Prop) (x6 : Int32) (x7 : Int32) (M8 : Mm) (again15 : Int32 → Int32 → Mm → Prop) : Prop :=
  (8 ≤ x7 → ((¬ x6 = 0 → (∃ b12 : Nat, mR M8 v0 3 = some b12 ∧ (yK Y b12 = 101 ∧ (vp_in v1 (yN Y b12) ∧ ((x6 = (mI M8 b12 v1.toNatClampNeg) → (f_X7_dropSilent_97 Y Kn M8)) ∧ (¬ (x6 = (mI M8 b12 v1.toNatClampNeg)) → (∃ b16 : Nat, mR M8 v0 3 = some b16 ∧ (yK Y b16 = 101 ∧ (vp_in v1 (yN Y b16) ∧ (∀ M19 : Mm, M19 = sI M8 b16 (m1 (mI M8 b16) v1.toNatClampNeg x6) → (f_X7_mix Y v0 v1 M19 (fun M20 => (f_X7_dropSilent_97 Y Kn M20))))))))))))) ∧ (x6 = 0 → (f_X7_makeEmpty Y v0 v1 M8 (fun M21 => (f_X7_dropSilent_97 Y Kn M21)))))) ∧ (¬ (8 ≤ x7) → (f_X7_hasMember Y v0 v1 x7 M8 (fun r23 M22 => ((r23 = 0 → (f_X7_dropSilent_57 Y x7 again15 M22 x6)) ∧ (¬ (r23 = 0) → (∃ b27 : Nat, mR M22 v0 6 = some b27 ∧ (yK Y b27 = 101 ∧ (vp_in ((v1 * 8) + x7) (yN Y b27) ∧ ((30 ≤ ((mI M22 v0 0) - (mI M22 b27 ((v1 * 8) + x7).toNatClampNeg)) → (f_X7_dropSilent_57 Y x7 again15 M22 x6)) ∧ (¬ (30 ≤ ((mI M22 v0 0) - (mI M22 b27 ((v1 * 8) + x7).toNatClampNeg))) → (∀ x31 : Int32, x31 = x6 ||| (1 <<< (x7 &&& 31)) → (f_X7_dropSilent_57 Y x7 again15 M22 x31))))))))))))
def f_X7_dropSilent (Y : Ly) (v0 : Nat) (v1 : Int32) (M : Mm) (Kn : Mm → Prop) : Prop :=
  yK Y v0 = 7 ∧ (∃ b2 : Nat, mR M v0 2 = some b2 ∧ (yK Y b2 = 101 ∧ (vp_in v1 (yN Y b2) ∧ (((mI M b2 v1.toNatClampNeg) = 2 → (∃ n, LOOP3 (L_X7_dropSilent_15 Y v0 v1 Kn) n 0 0 M)) ∧ (¬ ((mI M b2 v1.toNatClampNeg) = 2) → (Kn M))))))
set_option maxHeartbeats 4000000 in
set_option maxRecDepth 100000 in
theorem m_X7_dropSilent (l : Launch) (D : va_G) (cy : Cy) (tq sz : Nat) (Y : Ly) (v0 : Nat) (v1 : Int32) (M : Mm) (Kn : Mm → Prop) : Met l yX7_dropSilent (Cond.code yX7_dropSilent cX7_dropSilent 4 none :: TT) rm_X7_dropSilent (PcG D cy tq [.ref v0, .int v1] sz Y M (f_X7_dropSilent Y v0 v1 M Kn)) (va_Qv Kn (BG D cy (Am Y sz) Y) (Am Y sz)) 0 0 (Am Y sz) := by
  refine Met.ofW (cc := cX7_dropSilent) (maxL := 4) (ret := none) (by decide) rfl ?_
  intro p e s m args below meth c s₁ B hml hv
  obtain ⟨hargs, hsz, hW, hK, hC, hf⟩ := hv
  subst hsz
  have hx := B.exec
  have hb := B.bytes
  have hr := B.returns
  have hts : ∀ w ∈ TT, w.before args s = true := fun w h => atoms_spec (ws := Cond.code yX7_dropSilent cX7_dropSilent 4 none :: TT) B.pre w (List.mem_cons_of_mem _ h)
  have hown : s.vm.findClass RX7 = some m.cls := findClass_of_methodNamed B.named
  have hlocks := B.notSynchronized
  replace hW := Wd_self (sz := s.heap.size) hW
  generalize hAe : Am Y s.heap.size = A at hW hC ⊢
  have hA : ∀ q : Nat, s.heap.size ≤ q → A q := fun q h => by rw [← hAe]; exact Or.inr h
  clear hAe
  have hS : va_S A s.heap s.heap [] := va_S.rf
  obtain ⟨ls, hE, hl⟩ := gm_entry m [.ref v0, .int v1] (n := 4) hargs (Nat.le_of_ble_eq_true rfl)
  rw [hE]
  have hl : lv_has ls 4 [(0, .ref v0), (1, .int v1)] := hl
  show W p l e rm_X7_dropSilent s m args below meth c s.heap [] 0 0 (MQ below (va_Qv Kn (BG D cy A Y) A) args s 0 0 A) (F0 m 0 ls [])
  unfold f_X7_dropSilent at hf
  refine lv_aload_n hx hb dX7_dropSilent_0 rfl (lv_at hl 0 rfl) ?_
  obtain ⟨k1, hf⟩ := hf
  obtain ⟨b2, hb2, hf⟩ := hf
  refine gm_getR (C := RX7) (T := TX7) (N := 9) (j := 2) hx hb hts inT_7 hown hK hW k1 (by decide) rfl (by decide) rfl (hts _ kw_275) rfl dX7_dropSilent_1 hb2 ?_
  refine lv_iload_n hx hb dX7_dropSilent_4 rfl (lv_at hl 1 rfl) ?_
  obtain ⟨k3, hf⟩ := hf
  obtain ⟨h4, hf⟩ := hf
  refine gm_iald hx hb hK hW k3 h4 dX7_dropSilent_5 ?_
  refine lv_iconst (v := 2) hx hb dX7_dropSilent_6 (by decide +kernel) ?_
  refine lv_icmp_eq (tgt := 11) hx hb dX7_dropSilent_7 (by decide) (fun c5 => ?_) (fun c5 => ?_)
  · replace hf := hf.1 c5
    refine lv_iconst (v := 0) hx hb dX7_dropSilent_11 (by decide +kernel) ?_
    refine lv_istore_n (lv' := [(2, .int 0), (0, .ref v0), (1, .int v1)]) hx hb dX7_dropSilent_12 rfl hl (by decide) rfl (fun ls hl => ?_)
    refine lv_iconst (v := 0) hx hb dX7_dropSilent_13 (by decide +kernel) ?_
    refine lv_istore_n (lv' := [(3, .int 0), (2, .int 0), (0, .ref v0), (1, .int v1)]) hx hb dX7_dropSilent_14 rfl hl (by decide) rfl (fun ls hl => ?_)
    obtain ⟨n15, hf⟩ := hf
    have lp15 : ∀ (n15 : Nat) (x6 : Int32) (x7 : Int32) (M8 : Mm) (H : Heap) (locs : List Loc) (ls : Array Slot), lv_has ls 4 [(0, .ref v0), (1, .int v1), (2, .int x6), (3, .int x7)] → Wd D cy A Y M8 H → va_S A s.heap H locs → LOOP3 (L_X7_dropSilent_15 Y v0 v1 Kn) n15 x6 x7 M8 → W p l e rm_X7_dropSilent s m args below meth c H locs 0 0 (MQ below (va_Qv Kn (BG D cy A Y) A) args s 0 0 A) (F0 m 15 ls []) := by
      intro n15
      induction n15 with
      | zero => intro x6 x7 M8 H locs ls hl hW hS hf; exact hf.elim
      | succ n15 ih15 =>
        intro x6 x7 M8 H locs ls hl hW hS hf
        replace hf : L_X7_dropSilent_15 Y v0 v1 Kn x6 x7 M8 (LOOP3 (L_X7_dropSilent_15 Y v0 v1 Kn) n15) := hf
        unfold L_X7_dropSilent_15 at hf
        refine lv_iload_n hx hb dX7_dropSilent_15 rfl (lv_at hl 3 rfl) ?_
        refine lv_bipush (v := 8) hx hb dX7_dropSilent_16 (by decide +kernel) ?_
        refine lv_icmp_ge (tgt := 63) hx hb dX7_dropSilent_18 (by decide) (fun c9 => ?_) (fun c9 => ?_)
        · replace hf := hf.1 c9
          refine lv_iload_n hx hb dX7_dropSilent_63 rfl (lv_at hl 2 rfl) ?_
          have j97 : ∀ (M10 : Mm) (H : Heap) (locs : List Loc) (ls : Array Slot), lv_has ls 4 [] → Wd D cy A Y M10 H → va_S A s.heap H locs → f_X7_dropSilent_97 Y Kn M10 → W p l e rm_X7_dropSilent s m args below meth c H locs 0 0 (MQ below (va_Qv Kn (BG D cy A Y) A) args s 0 0 A) (F0 m 97 ls []) := by
            intro M10 H locs ls hl hW hS hf
            unfold f_X7_dropSilent_97 at hf
            exact gm_vret hx hb hr hlocks hW hS hf dX7_dropSilent_97
          refine lv_if_ne (tgt := 75) hx hb dX7_dropSilent_64 (by decide) (fun c11 => ?_) (fun c11 => ?_)
          · replace hf := hf.1 c11
            refine lv_iload_n hx hb dX7_dropSilent_75 rfl (lv_at hl 2 rfl) ?_
            refine lv_aload_n hx hb dX7_dropSilent_76 rfl (lv_at hl 0 rfl) ?_
            obtain ⟨b12, hb12, hf⟩ := hf
            refine gm_getR (C := RX7) (T := TX7) (N := 9) (j := 3) hx hb hts inT_7 hown hK hW k1 (by decide) rfl (by decide) rfl (hts _ kw_277) rfl dX7_dropSilent_77 hb12 ?_
            refine lv_iload_n hx hb dX7_dropSilent_80 rfl (lv_at hl 1 rfl) ?_
            obtain ⟨k13, hf⟩ := hf
            obtain ⟨h14, hf⟩ := hf
            refine gm_iald hx hb hK hW k13 h14 dX7_dropSilent_81 ?_
            refine lv_icmp_eq (tgt := 97) hx hb dX7_dropSilent_82 (by decide) (fun c15 => ?_) (fun c15 => ?_)
            · replace hf := hf.1 c15
              exact j97 _ _ _ _ (lv_sub hl [] rfl) hW hS hf
            · replace hf := hf.2 c15
              refine lv_aload_n hx hb dX7_dropSilent_85 rfl (lv_at hl 0 rfl) ?_
              obtain ⟨b16, hb16, hf⟩ := hf
              refine gm_getR (C := RX7) (T := TX7) (N := 9) (j := 3) hx hb hts inT_7 hown hK hW k1 (by decide) rfl (by decide) rfl (hts _ kw_277) rfl dX7_dropSilent_86 hb16 ?_
              refine lv_iload_n hx hb dX7_dropSilent_89 rfl (lv_at hl 1 rfl) ?_
              refine lv_iload_n hx hb dX7_dropSilent_90 rfl (lv_at hl 2 rfl) ?_
              obtain ⟨k17, hf⟩ := hf
              obtain ⟨h18, hf⟩ := hf
              refine gm_iast hx hb hK hW hS k17 h18 dX7_dropSilent_91 (fun H locs M19 eM19 hW hS => ?_)
              replace hf := hf M19 eM19
              refine lv_aload_n hx hb dX7_dropSilent_92 rfl (lv_at hl 0 rfl) ?_
              refine lv_iload_n hx hb dX7_dropSilent_93 rfl (lv_at hl 1 rfl) ?_
              refine gm_cv (va_runV (As := [.int v1]) (rest := []) ⟨hx, hb, hml, hown, hts⟩ (m_X7_mix l D cy tq _ Y _ _ _ _) (cwV 1 hts (good_V kw_1149 kw_1150 kw_1815 kw_11 kw_1151) rfl rfl rfl (by decide +kernel) ⟨Nat.le_of_ble_eq_true rfl, Nat.le_of_ble_eq_true rfl⟩) (gm_preV hK hW hC hS hA k1 (by decide) (q := (RX7, TX7, 9)) rfl rfl hf) rfl rfl hl.1 rfl (lv_room (Nat.le_of_ble_eq_true rfl)) dX7_dropSilent_94 ⟨Nat.le_of_ble_eq_true rfl, Nat.le_of_ble_eq_true rfl⟩) hW hS hA (fun M20 H locs hW hS hf => ?_)
              exact j97 _ _ _ _ (lv_sub hl [] rfl) hW hS hf
          · replace hf := hf.2 c11
            refine lv_aload_n hx hb dX7_dropSilent_67 rfl (lv_at hl 0 rfl) ?_
            refine lv_iload_n hx hb dX7_dropSilent_68 rfl (lv_at hl 1 rfl) ?_
            refine gm_cv (va_runV (As := [.int v1]) (rest := []) ⟨hx, hb, hml, hown, hts⟩ (m_X7_makeEmpty l D cy tq _ Y _ _ _ _) (cwV 1 hts (good_V kw_367 kw_368 kw_1787 kw_11 kw_369) rfl rfl rfl (by decide +kernel) ⟨Nat.le_of_ble_eq_true rfl, Nat.le_of_ble_eq_true rfl⟩) (gm_preV hK hW hC hS hA k1 (by decide) (q := (RX7, TX7, 9)) rfl rfl hf) rfl rfl hl.1 rfl (lv_room (Nat.le_of_ble_eq_true rfl)) dX7_dropSilent_69 ⟨Nat.le_of_ble_eq_true rfl, Nat.le_of_ble_eq_true rfl⟩) hW hS hA (fun M21 H locs hW hS hf => ?_)
            refine lv_goto (tgt := 97) hx hb dX7_dropSilent_72 (by decide) ?_
            exact j97 _ _ _ _ (lv_sub hl [] rfl) hW hS hf
        · replace hf := hf.2 c9
          refine lv_aload_n hx hb dX7_dropSilent_21 rfl (lv_at hl 0 rfl) ?_
          refine lv_iload_n hx hb dX7_dropSilent_22 rfl (lv_at hl 1 rfl) ?_
          refine lv_iload_n hx hb dX7_dropSilent_23 rfl (lv_at hl 3 rfl) ?_
          refine gm_ci (va_runV (As := [.int v1, .int x7]) (rest := []) ⟨hx, hb, hml, hown, hts⟩ (m_X7_hasMember l D cy tq _ Y _ _ _ _ _) (cwV 2 hts (good_V kw_1181 kw_1182 kw_1818 kw_11 kw_1183) rfl rfl rfl (by decide +kernel) ⟨Nat.le_of_ble_eq_true rfl, Nat.le_of_ble_eq_true rfl⟩) (gm_preV hK hW hC hS hA k1 (by decide) (q := (RX7, TX7, 9)) rfl rfl hf) rfl rfl hl.1 rfl (lv_room (Nat.le_of_ble_eq_true rfl)) dX7_dropSilent_24 ⟨Nat.le_of_ble_eq_true rfl, Nat.le_of_ble_eq_true rfl⟩) hW hS hA (fun r23 M22 H locs hW hS hf => ?_)
          have j57 : ∀ (x24 : Int32) (H : Heap) (locs : List Loc) (ls : Array Slot), lv_has ls 4 [(0, .ref v0), (1, .int v1), (2, .int x24), (3, .int x7)] → Wd D cy A Y M22 H → va_S A s.heap H locs → f_X7_dropSilent_57 Y x7 (LOOP3 (L_X7_dropSilent_15 Y v0 v1 Kn) n15) M22 x24 → W p l e rm_X7_dropSilent s m args below meth c H locs 0 0 (MQ below (va_Qv Kn (BG D cy A Y) A) args s 0 0 A) (F0 m 57 ls []) := by
            intro x24 H locs ls hl hW hS hf
            unfold f_X7_dropSilent_57 at hf
            obtain ⟨x25, ex25⟩ : ∃ y : Int32, y = x7 + 1 := ⟨_, rfl⟩
            replace hf := hf x25 ex25
            refine lv_iinc (v := x25) (lv' := [(3, .int x25), (0, .ref v0), (1, .int v1), (2, .int x24)]) hx hb dX7_dropSilent_57 hl (k := 3) rfl (by rw [ex25]; rfl) (by decide) rfl (fun ls hl => ?_)
            refine lv_goto (tgt := 15) hx hb dX7_dropSilent_60 (by decide) ?_
            exact ih15 _ _ _ _ _ _ (lv_sub hl [1, 2, 3, 0] rfl) hW hS hf
          refine lv_if_eq (tgt := 57) hx hb dX7_dropSilent_27 (by decide) (fun c26 => ?_) (fun c26 => ?_)
          · replace hf := hf.1 c26
            exact j57 _ _ _ _ (lv_sub hl [0, 1, 2, 3] rfl) hW hS hf
          · replace hf := hf.2 c26
            refine lv_aload_n hx hb dX7_dropSilent_30 rfl (lv_at hl 0 rfl) ?_
            refine gm_getI (C := RX7) (T := TX7) (N := 9) (j := 0) hx hb hts inT_7 hown hK hW k1 (by decide) rfl (by decide) rfl (hts _ kw_271) rfl dX7_dropSilent_31 ?_
            refine lv_aload_n hx hb dX7_dropSilent_34 rfl (lv_at hl 0 rfl) ?_
            obtain ⟨b27, hb27, hf⟩ := hf
            refine gm_getR (C := RX7) (T := TX7) (N := 9) (j := 6) hx hb hts inT_7 hown hK hW k1 (by decide) rfl (by decide) rfl (hts _ kw_282) rfl dX7_dropSilent_35 hb27 ?_
            refine lv_iload_n hx hb dX7_dropSilent_38 rfl (lv_at hl 1 rfl) ?_
            refine lv_bipush (v := 8) hx hb dX7_dropSilent_39 (by decide +kernel) ?_
            refine lv_imul hx hb dX7_dropSilent_41 ?_
            refine lv_iload_n hx hb dX7_dropSilent_42 rfl (lv_at hl 3 rfl) ?_
            refine lv_iadd hx hb dX7_dropSilent_43 ?_
            obtain ⟨k28, hf⟩ := hf
            obtain ⟨h29, hf⟩ := hf
            refine gm_iald hx hb hK hW k28 h29 dX7_dropSilent_44 ?_
            refine lv_isub hx hb dX7_dropSilent_45 ?_
            refine lv_bipush (v := 30) hx hb dX7_dropSilent_46 (by decide +kernel) ?_
            refine lv_icmp_ge (tgt := 57) hx hb dX7_dropSilent_48 (by decide) (fun c30 => ?_) (fun c30 => ?_)
            · replace hf := hf.1 c30
              exact j57 _ _ _ _ (lv_sub hl [0, 1, 2, 3] rfl) hW hS hf
            · replace hf := hf.2 c30
              refine lv_iload_n hx hb dX7_dropSilent_51 rfl (lv_at hl 2 rfl) ?_
              refine lv_iconst (v := 1) hx hb dX7_dropSilent_52 (by decide +kernel) ?_
              refine lv_iload_n hx hb dX7_dropSilent_53 rfl (lv_at hl 3 rfl) ?_
              refine lv_ishl hx hb dX7_dropSilent_54 ?_
              refine lv_ior hx hb dX7_dropSilent_55 ?_
              refine lv_topi (fun x31 ex31 => ?_)
              replace hf := hf x31 ex31
              refine lv_istore_n (lv' := [(2, .int x31), (0, .ref v0), (1, .int v1), (3, .int x7)]) hx hb dX7_dropSilent_56 rfl hl (by decide) rfl (fun ls hl => ?_)
              exact j57 _ _ _ _ (lv_sub hl [1, 2, 0, 3] rfl) hW hS hf
    exact lp15 n15 _ _ _ _ _ _ (lv_sub hl [2, 3, 1, 0] rfl) hW hS hf
  · replace hf := hf.2 c5
    exact gm_vret hx hb hr hlocks hW hS hf dX7_dropSilent_10

abbrev rm_X7_tick : Room := { frames := 7, cells := 0, slots := 0, locals := 203 }
def L_X7_tick_12 (Y : Ly) (v0 : Nat) (Kn : Int32 → Mm → Prop) (x3 : Int32) (M4 : Mm) (again12 : Int32 → Mm → Prop) : Prop :=
  (8 ≤ x3 → (bz 1 ∧ Kn 1 M4)) ∧ (¬ (8 ≤ x3) → (f_X7_dropSilent Y v0 x3 M4 (fun M6 => (f_X7_settle Y v0 x3 M6 (fun r8 M7 => ((¬ r8 = 0 → (∀ x10 : Int32, x10 = x3 + 1 → (again12 x10 M7))) ∧ (r8 = 0 → (bz 0 ∧ Kn 0 M7))))))))
def f_X7_tick (Y : Ly) (v0 : Nat) (M : Mm) (Kn : Int32 → Mm → Prop) : Prop :=
  yK Y v0 = 7 ∧ (∀ M2 : Mm, M2 = sI M v0 (m1 (mI M v0) 0 ((mI M v0 0) + 1)) → (∃ n, LOOP2 (L_X7_tick_12 Y v0 Kn) n 0 M2))
set_option maxHeartbeats 4000000 in
set_option maxRecDepth 100000 in
theorem m_X7_tick (l : Launch) (D : va_G) (cy : Cy) (tq sz : Nat) (Y : Ly) (v0 : Nat) (M : Mm) (Kn : Int32 → Mm → Prop) : Met l yX7_tick (Cond.code yX7_tick cX7_tick 2 (some .boolean) :: TT) rm_X7_tick (PcG D cy tq [.ref v0] sz Y M (f_X7_tick Y v0 M Kn)) (va_Qi Kn (BG D cy (Am Y sz) Y) (Am Y sz)) 0 0 (Am Y sz) := by
  refine Met.ofW (cc := cX7_tick) (maxL := 2) (ret := (some .boolean)) (by decide) rfl ?_
  intro p e s m args below meth c s₁ B hml hv
  obtain ⟨hargs, hsz, hW, hK, hC, hf⟩ := hv
  subst hsz
  have hx := B.exec
  have hb := B.bytes
  have hr := B.returns
  have hts : ∀ w ∈ TT, w.before args s = true := fun w h => atoms_spec (ws := Cond.code yX7_tick cX7_tick 2 (some .boolean) :: TT) B.pre w (List.mem_cons_of_mem _ h)
  have hown : s.vm.findClass RX7 = some m.cls := findClass_of_methodNamed B.named
  have hlocks := B.notSynchronized
  replace hW := Wd_self (sz := s.heap.size) hW
  generalize hAe : Am Y s.heap.size = A at hW hC ⊢
  have hA : ∀ q : Nat, s.heap.size ≤ q → A q := fun q h => by rw [← hAe]; exact Or.inr h
  clear hAe
  have hS : va_S A s.heap s.heap [] := va_S.rf
  obtain ⟨ls, hE, hl⟩ := gm_entry m [.ref v0] (n := 2) hargs (Nat.le_of_ble_eq_true rfl)
  rw [hE]
  have hl : lv_has ls 2 [(0, .ref v0)] := hl
  show W p l e rm_X7_tick s m args below meth c s.heap [] 0 0 (MQ below (va_Qi Kn (BG D cy A Y) A) args s 0 0 A) (F0 m 0 ls [])
  unfold f_X7_tick at hf
  refine lv_aload_n hx hb dX7_tick_0 rfl (lv_at hl 0 rfl) ?_
  refine lv_dup hx hb dX7_tick_1 rfl ?_
  obtain ⟨k1, hf⟩ := hf
  refine gm_getI (C := RX7) (T := TX7) (N := 9) (j := 0) hx hb hts inT_7 hown hK hW k1 (by decide) rfl (by decide) rfl (hts _ kw_271) rfl dX7_tick_2 ?_
  refine lv_iconst (v := 1) hx hb dX7_tick_5 (by decide +kernel) ?_
  refine lv_iadd hx hb dX7_tick_6 ?_
  refine gm_putI (C := RX7) (T := TX7) (N := 9) (j := 0) hx hb hts inT_7 tyX7 tyX7_ok nmX7 hown hK hW hS k1 (by decide) rfl (by decide) rfl (hts _ kw_271) rfl rfl rfl rfl dX7_tick_7 (fun H locs M2 eM2 hW hS => ?_)
  replace hf := hf M2 eM2
  refine lv_iconst (v := 0) hx hb dX7_tick_10 (by decide +kernel) ?_
  refine lv_istore_n (lv' := [(1, .int 0), (0, .ref v0)]) hx hb dX7_tick_11 rfl hl (by decide) rfl (fun ls hl => ?_)
  obtain ⟨n12, hf⟩ := hf
  have lp12 : ∀ (n12 : Nat) (x3 : Int32) (M4 : Mm) (H : Heap) (locs : List Loc) (ls : Array Slot), lv_has ls 2 [(0, .ref v0), (1, .int x3)] → Wd D cy A Y M4 H → va_S A s.heap H locs → LOOP2 (L_X7_tick_12 Y v0 Kn) n12 x3 M4 → W p l e rm_X7_tick s m args below meth c H locs 0 0 (MQ below (va_Qi Kn (BG D cy A Y) A) args s 0 0 A) (F0 m 12 ls []) := by
    intro n12
    induction n12 with
    | zero => intro x3 M4 H locs ls hl hW hS hf; exact hf.elim
    | succ n12 ih12 =>
      intro x3 M4 H locs ls hl hW hS hf
      replace hf : L_X7_tick_12 Y v0 Kn x3 M4 (LOOP2 (L_X7_tick_12 Y v0 Kn) n12) := hf
      unfold L_X7_tick_12 at hf
      refine lv_iload_n hx hb dX7_tick_12 rfl (lv_at hl 1 rfl) ?_
      refine lv_bipush (v := 8) hx hb dX7_tick_13 (by decide +kernel) ?_
      refine lv_icmp_ge (tgt := 39) hx hb dX7_tick_15 (by decide) (fun c5 => ?_) (fun c5 => ?_)
      · replace hf := hf.1 c5
        refine lv_iconst (v := 1) hx hb dX7_tick_39 (by decide +kernel) ?_
        exact gm_zret hx hb hr hlocks hW hS hf.1 hf.2 dX7_tick_40
      · replace hf := hf.2 c5
        refine lv_aload_n hx hb dX7_tick_18 rfl (lv_at hl 0 rfl) ?_
        refine lv_iload_n hx hb dX7_tick_19 rfl (lv_at hl 1 rfl) ?_
        refine gm_cv (va_runV (As := [.int x3]) (rest := []) ⟨hx, hb, hml, hown, hts⟩ (m_X7_dropSilent l D cy tq _ Y _ _ _ _) (cwV 1 hts (good_V kw_1264 kw_1265 kw_1819 kw_11 kw_1266) rfl rfl rfl (by decide +kernel) ⟨Nat.le_of_ble_eq_true rfl, Nat.le_of_ble_eq_true rfl⟩) (gm_preV hK hW hC hS hA k1 (by decide) (q := (RX7, TX7, 9)) rfl rfl hf) rfl rfl hl.1 rfl (lv_room (Nat.le_of_ble_eq_true rfl)) dX7_tick_20 ⟨Nat.le_of_ble_eq_true rfl, Nat.le_of_ble_eq_true rfl⟩) hW hS hA (fun M6 H locs hW hS hf => ?_)
        refine lv_aload_n hx hb dX7_tick_23 rfl (lv_at hl 0 rfl) ?_
        refine lv_iload_n hx hb dX7_tick_24 rfl (lv_at hl 1 rfl) ?_
        refine gm_ci (va_runV (As := [.int x3]) (rest := []) ⟨hx, hb, hml, hown, hts⟩ (m_X7_settle l D cy tq _ Y _ _ _ _) (cwV 1 hts (good_V kw_1152 kw_1153 kw_1816 kw_11 kw_1154) rfl rfl rfl (by decide +kernel) ⟨Nat.le_of_ble_eq_true rfl, Nat.le_of_ble_eq_true rfl⟩) (gm_preV hK hW hC hS hA k1 (by decide) (q := (RX7, TX7, 9)) rfl rfl hf) rfl rfl hl.1 rfl (lv_room (Nat.le_of_ble_eq_true rfl)) dX7_tick_25 ⟨Nat.le_of_ble_eq_true rfl, Nat.le_of_ble_eq_true rfl⟩) hW hS hA (fun r8 M7 H locs hW hS hf => ?_)
        refine lv_if_ne (tgt := 33) hx hb dX7_tick_28 (by decide) (fun c9 => ?_) (fun c9 => ?_)
        · replace hf := hf.1 c9
          obtain ⟨x10, ex10⟩ : ∃ y : Int32, y = x3 + 1 := ⟨_, rfl⟩
          replace hf := hf x10 ex10
          refine lv_iinc (v := x10) (lv' := [(1, .int x10), (0, .ref v0)]) hx hb dX7_tick_33 hl (k := 1) rfl (by rw [ex10]; rfl) (by decide) rfl (fun ls hl => ?_)
          refine lv_goto (tgt := 12) hx hb dX7_tick_36 (by decide) ?_
          exact ih12 _ _ _ _ _ (lv_sub hl [1, 0] rfl) hW hS hf
        · replace hf := hf.2 c9
          refine lv_iconst (v := 0) hx hb dX7_tick_31 (by decide +kernel) ?_
          exact gm_zret hx hb hr hlocks hW hS hf.1 hf.2 dX7_tick_32
  exact lp12 n12 _ _ _ _ _ (lv_sub hl [1, 0] rfl) hW hS hf
