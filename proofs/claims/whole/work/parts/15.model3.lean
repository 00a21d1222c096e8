/-! by gen.py: what the methods do, and that they do it -/
abbrev rm_X12_mixes : Room := { frames := 2, cells := 0, slots := 0, locals := 80 }
def L_X12_mixes_25 (Y : Ly) (v0 : Nat) (v1 : Int32) (Kn : Mm → Prop) (x11 : Int32) (M12 : Mm) (again25 : Int32 → Mm → Prop) : Prop :=
  (((8 * v1) + 8) ≤ x11 → (Kn M12)) ∧ (¬ (((8 * v1) + 8) ≤ x11) → (∃ b14 : Nat, mR M12 v0 38 = some b14 ∧ (yK Y b14 = 103 ∧ (vp_in x11 (yN Y b14) ∧ (bz 0 ∧ (∀ M18 : Mm, M18 = sI M12 b14 (m1 (mI M12 b14) x11.toNatClampNeg 0) → (∀ x19 : Int32, x19 = x11 + 1 → (again25 x19 M18))))))))
def f_X12_mixes (Y : Ly) (v0 : Nat) (v1 : Int32) (M : Mm) (Kn : Mm → Prop) : Prop :=
  yK Y v0 = 12 ∧ (∃ b2 : Nat, mR M v0 34 = some b2 ∧ (yK Y b2 = 101 ∧ (vp_in v1 (yN Y b2) ∧ (∀ M5 : Mm, M5 = sI M b2 (m1 (mI M b2) v1.toNatClampNeg 1) → (∃ b6 : Nat, mR M5 v0 36 = some b6 ∧ (yK Y b6 = 101 ∧ (vp_in v1 (yN Y b6) ∧ (∀ M9 : Mm, M9 = sI M5 b6 (m1 (mI M5 b6) v1.toNatClampNeg ((mI M5 v0 4) + 20)) → (∀ x10 : Int32, x10 = 8 * v1 → (∃ n, LOOP2 (L_X12_mixes_25 Y v0 v1 Kn) n x10 M9))))))))))
set_option maxHeartbeats 4000000 in
set_option maxRecDepth 100000 in
theorem m_X12_mixes (l : Launch) (D : va_G) (cy : Cy) (tq sz : Nat) (Y : Ly) (v0 : Nat) (v1 : Int32) (M : Mm) (Kn : Mm → Prop) : Met l yX12_mixes (Cond.code yX12_mixes cX12_mixes 3 none :: TT) rm_X12_mixes (PcG D cy tq [.ref v0, .int v1] sz Y M (f_X12_mixes Y v0 v1 M Kn)) (va_Qv Kn (BG D cy (Am Y sz) Y) (Am Y sz)) 0 0 (Am Y sz) := by
  refine Met.ofW (cc := cX12_mixes) (maxL := 3) (ret := none) (by decide) rfl ?_
  intro p e s m args below meth c s₁ B hml hv
  obtain ⟨hargs, hsz, hW, hK, hC, hf⟩ := hv
  subst hsz
  have hx := B.exec
  have hb := B.bytes
  have hr := B.returns
  have hts : ∀ w ∈ TT, w.before args s = true := fun w h => atoms_spec (ws := Cond.code yX12_mixes cX12_mixes 3 none :: TT) B.pre w (List.mem_cons_of_mem _ h)
  have hown : s.vm.findClass RX12 = some m.cls := findClass_of_methodNamed B.named
  have hlocks := B.notSynchronized
  replace hW := Wd_self (sz := s.heap.size) hW
  generalize hAe : Am Y s.heap.size = A at hW hC ⊢
  have hA : ∀ q : Nat, s.heap.size ≤ q → A q := fun q h => by rw [← hAe]; exact Or.inr h
  clear hAe
  have hS : va_S A s.heap s.heap [] := va_S.rf
  obtain ⟨ls, hE, hl⟩ := gm_entry m [.ref v0, .int v1] (n := 3) hargs (Nat.le_of_ble_eq_true rfl)
  rw [hE]
  have hl : lv_has ls 3 [(0, .ref v0), (1, .int v1)] := hl
  show W p l e rm_X12_mixes s m args below meth c s.heap [] 0 0 (MQ below (va_Qv Kn (BG D cy A Y) A) args s 0 0 A) (F0 m 0 ls [])
  unfold f_X12_mixes at hf
  refine lv_aload_n hx hb dX12_mixes_0 rfl (lv_at hl 0 rfl) ?_
  obtain ⟨k1, hf⟩ := hf
  obtain ⟨b2, hb2, hf⟩ := hf
  refine gm_getR (C := RX12) (T := TX12) (N := 68) (j := 34) hx hb hts inT_12 hown hK hW k1 (by decide) rfl (by decide) rfl (hts _ kw_1350) rfl dX12_mixes_1 hb2 ?_
  refine lv_iload_n hx hb dX12_mixes_4 rfl (lv_at hl 1 rfl) ?_
  refine lv_iconst (v := 1) hx hb dX12_mixes_5 (by decide +kernel) ?_
  obtain ⟨k3, hf⟩ := hf
  obtain ⟨h4, hf⟩ := hf
  refine gm_iast hx hb hK hW hS k3 h4 dX12_mixes_6 (fun H locs M5 eM5 hW hS => ?_)
  replace hf := hf M5 eM5
  refine lv_aload_n hx hb dX12_mixes_7 rfl (lv_at hl 0 rfl) ?_
  obtain ⟨b6, hb6, hf⟩ := hf
  refine gm_getR (C := RX12) (T := TX12) (N := 68) (j := 36) hx hb hts inT_12 hown hK hW k1 (by decide) rfl (by decide) rfl (hts _ kw_1352) rfl dX12_mixes_8 hb6 ?_
  refine lv_iload_n hx hb dX12_mixes_11 rfl (lv_at hl 1 rfl) ?_
  refine lv_aload_n hx hb dX12_mixes_12 rfl (lv_at hl 0 rfl) ?_
  refine gm_getI (C := RX12) (T := TX12) (N := 68) (j := 4) hx hb hts inT_12 hown hK hW k1 (by decide) rfl (by decide) rfl (hts _ kw_1320) rfl dX12_mixes_13 ?_
  refine lv_bipush (v := 20) hx hb dX12_mixes_16 (by decide +kernel) ?_
  refine lv_iadd hx hb dX12_mixes_18 ?_
  obtain ⟨k7, hf⟩ := hf
  obtain ⟨h8, hf⟩ := hf
  refine gm_iast hx hb hK hW hS k7 h8 dX12_mixes_19 (fun H locs M9 eM9 hW hS => ?_)
  replace hf := hf M9 eM9
  refine lv_bipush (v := 8) hx hb dX12_mixes_20 (by decide +kernel) ?_
  refine lv_iload_n hx hb dX12_mixes_22 rfl (lv_at hl 1 rfl) ?_
  refine lv_imul hx hb dX12_mixes_23 ?_
  refine lv_topi (fun x10 ex10 => ?_)
  replace hf := hf x10 ex10
  refine lv_istore_n (lv' := [(2, .int x10), (0, .ref v0), (1, .int v1)]) hx hb dX12_mixes_24 rfl hl (by decide) rfl (fun ls hl => ?_)
  obtain ⟨n25, hf⟩ := hf
  have lp25 : ∀ (n25 : Nat) (x11 : Int32) (M12 : Mm) (H : Heap) (locs : List Loc) (ls : Array Slot), lv_has ls 3 [(0, .ref v0), (1, .int v1), (2, .int x11)] → Wd D cy A Y M12 H → va_S A s.heap H locs → LOOP2 (L_X12_mixes_25 Y v0 v1 Kn) n25 x11 M12 → W p l e rm_X12_mixes s m args below meth c H locs 0 0 (MQ below (va_Qv Kn (BG D cy A Y) A) args s 0 0 A) (F0 m 25 ls []) := by
    intro n25
    induction n25 with
    | zero => intro x11 M12 H locs ls hl hW hS hf; exact hf.elim
    | succ n25 ih25 =>
      intro x11 M12 H locs ls hl hW hS hf
      replace hf : L_X12_mixes_25 Y v0 v1 Kn x11 M12 (LOOP2 (L_X12_mixes_25 Y v0 v1 Kn) n25) := hf
      unfold L_X12_mixes_25 at hf
      refine lv_iload_n hx hb dX12_mixes_25 rfl (lv_at hl 2 rfl) ?_
      refine lv_bipush (v := 8) hx hb dX12_mixes_26 (by decide +kernel) ?_
      refine lv_iload_n hx hb dX12_mixes_28 rfl (lv_at hl 1 rfl) ?_
      refine lv_imul hx hb dX12_mixes_29 ?_
      refine lv_bipush (v := 8) hx hb dX12_mixes_30 (by decide +kernel) ?_
      refine lv_iadd hx hb dX12_mixes_32 ?_
      refine lv_icmp_ge (tgt := 49) hx hb dX12_mixes_33 (by decide) (fun c13 => ?_) (fun c13 => ?_)
      · replace hf := hf.1 c13
        exact gm_vret hx hb hr hlocks hW hS hf dX12_mixes_49
      · replace hf := hf.2 c13
        refine lv_aload_n hx hb dX12_mixes_36 rfl (lv_at hl 0 rfl) ?_
        obtain ⟨b14, hb14, hf⟩ := hf
        refine gm_getR (C := RX12) (T := TX12) (N := 68) (j := 38) hx hb hts inT_12 hown hK hW k1 (by decide) rfl (by decide) rfl (hts _ kw_1354) rfl dX12_mixes_37 hb14 ?_
        refine lv_iload_n hx hb dX12_mixes_40 rfl (lv_at hl 2 rfl) ?_
        refine lv_iconst (v := 0) hx hb dX12_mixes_41 (by decide +kernel) ?_
        obtain ⟨k15, hf⟩ := hf
        obtain ⟨h16, hf⟩ := hf
        obtain ⟨z17, hf⟩ := hf
        refine gm_zast hx hb hK hW hS k15 h16 (bz_v z17) dX12_mixes_42 (fun H locs M18 eM18 hW hS => ?_)
        replace hf := hf M18 eM18
        obtain ⟨x19, ex19⟩ : ∃ y : Int32, y = x11 + 1 := ⟨_, rfl⟩
        replace hf := hf x19 ex19
        refine lv_iinc (v := x19) (lv' := [(2, .int x19), (0, .ref v0), (1, .int v1)]) hx hb dX12_mixes_43 hl (k := 2) rfl (by rw [ex19]; rfl) (by decide) rfl (fun ls hl => ?_)
        refine lv_goto (tgt := 25) hx hb dX12_mixes_46 (by decide) ?_
        exact ih25 _ _ _ _ _ (lv_sub hl [1, 2, 0] rfl) hW hS hf
  exact lp25 n25 _ _ _ _ _ (lv_sub hl [1, 2, 0] rfl) hW hS hf

abbrev rm_X12_empties : Room := { frames := 2, cells := 0, slots := 0, locals := 80 }
def L_X12_empties_12 (Y : Ly) (v0 : Nat) (v1 : Int32) (Kn : Mm → Prop) (x7 : Int32) (M8 : Mm) (again12 : Int32 → Mm → Prop) : Prop :=
  (((8 * v1) + 8) ≤ x7 → (Kn M8)) ∧ (¬ (((8 * v1) + 8) ≤ x7) → (∃ b10 : Nat, mR M8 v0 37 = some b10 ∧ (yK Y b10 = 103 ∧ (vp_in x7 (yN Y b10) ∧ (bz 0 ∧ (∀ M14 : Mm, M14 = sI M8 b10 (m1 (mI M8 b10) x7.toNatClampNeg 0) → (∃ b15 : Nat, mR M14 v0 38 = some b15 ∧ (yK Y b15 = 103 ∧ (vp_in x7 (yN Y b15) ∧ (bz 0 ∧ (∀ M19 : Mm, M19 = sI M14 b15 (m1 (mI M14 b15) x7.toNatClampNeg 0) → (∀ x20 : Int32, x20 = x7 + 1 → (again12 x20 M19)))))))))))))
def f_X12_empties (Y : Ly) (v0 : Nat) (v1 : Int32) (M : Mm) (Kn : Mm → Prop) : Prop :=
  yK Y v0 = 12 ∧ (∃ b2 : Nat, mR M v0 34 = some b2 ∧ (yK Y b2 = 101 ∧ (vp_in v1 (yN Y b2) ∧ (∀ M5 : Mm, M5 = sI M b2 (m1 (mI M b2) v1.toNatClampNeg 0) → (∀ x6 : Int32, x6 = 8 * v1 → (∃ n, LOOP2 (L_X12_empties_12 Y v0 v1 Kn) n x6 M5))))))
set_option maxHeartbeats 4000000 in
set_option maxRecDepth 100000 in
theorem m_X12_empties (l : Launch) (D : va_G) (cy : Cy) (tq sz : Nat) (Y : Ly) (v0 : Nat) (v1 : Int32) (M : Mm) (Kn : Mm → Prop) : Met l yX12_empties (Cond.code yX12_empties cX12_empties 3 none :: TT) rm_X12_empties (PcG D cy tq [.ref v0, .int v1] sz Y M (f_X12_empties Y v0 v1 M Kn)) (va_Qv Kn (BG D cy (Am Y sz) Y) (Am Y sz)) 0 0 (Am Y sz) := by
  refine Met.ofW (cc := cX12_empties) (maxL := 3) (ret := none) (by decide) rfl ?_
  intro p e s m args below meth c s₁ B hml hv
  obtain ⟨hargs, hsz, hW, hK, hC, hf⟩ := hv
  subst hsz
  have hx := B.exec
  have hb := B.bytes
  have hr := B.returns
  have hts : ∀ w ∈ TT, w.before args s = true := fun w h => atoms_spec (ws := Cond.code yX12_empties cX12_empties 3 none :: TT) B.pre w (List.mem_cons_of_mem _ h)
  have hown : s.vm.findClass RX12 = some m.cls := findClass_of_methodNamed B.named
  have hlocks := B.notSynchronized
  replace hW := Wd_self (sz := s.heap.size) hW
  generalize hAe : Am Y s.heap.size = A at hW hC ⊢
  have hA : ∀ q : Nat, s.heap.size ≤ q → A q := fun q h => by rw [← hAe]; exact Or.inr h
  clear hAe
  have hS : va_S A s.heap s.heap [] := va_S.rf
  obtain ⟨ls, hE, hl⟩ := gm_entry m [.ref v0, .int v1] (n := 3) hargs (Nat.le_of_ble_eq_true rfl)
  rw [hE]
  have hl : lv_has ls 3 [(0, .ref v0), (1, .int v1)] := hl
  show W p l e rm_X12_empties s m args below meth c s.heap [] 0 0 (MQ below (va_Qv Kn (BG D cy A Y) A) args s 0 0 A) (F0 m 0 ls [])
  unfold f_X12_empties at hf
  refine lv_aload_n hx hb dX12_empties_0 rfl (lv_at hl 0 rfl) ?_
  obtain ⟨k1, hf⟩ := hf
  obtain ⟨b2, hb2, hf⟩ := hf
  refine gm_getR (C := RX12) (T := TX12) (N := 68) (j := 34) hx hb hts inT_12 hown hK hW k1 (by decide) rfl (by decide) rfl (hts _ kw_1350) rfl dX12_empties_1 hb2 ?_
  refine lv_iload_n hx hb dX12_empties_4 rfl (lv_at hl 1 rfl) ?_
  refine lv_iconst (v := 0) hx hb dX12_empties_5 (by decide +kernel) ?_
  obtain ⟨k3, hf⟩ := hf
  obtain ⟨h4, hf⟩ := hf
  refine gm_iast hx hb hK hW hS k3 h4 dX12_empties_6 (fun H locs M5 eM5 hW hS => ?_)
  replace hf := hf M5 eM5
  refine lv_bipush (v := 8) hx hb dX12_empties_7 (by decide +kernel) ?_
  refine lv_iload_n hx hb dX12_empties_9 rfl (lv_at hl 1 rfl) ?_
  refine lv_imul hx hb dX12_empties_10 ?_
  refine lv_topi (fun x6 ex6 => ?_)
  replace hf := hf x6 ex6
  refine lv_istore_n (lv' := [(2, .int x6), (0, .ref v0), (1, .int v1)]) hx hb dX12_empties_11 rfl hl (by decide) rfl (fun ls hl => ?_)
  obtain ⟨n12, hf⟩ := hf
  have lp12 : ∀ (n12 : Nat) (x7 : Int32) (M8 : Mm) (H : Heap) (locs : List Loc) (ls : Array Slot), lv_has ls 3 [(0, .ref v0), (1, .int v1), (2, .int x7)] → Wd D cy A Y M8 H → va_S A s.heap H locs → LOOP2 (L_X12_empties_12 Y v0 v1 Kn) n12 x7 M8 → W p l e rm_X12_empties s m args below meth c H locs 0 0 (MQ below (va_Qv Kn (BG D cy A Y) A) args s 0 0 A) (F0 m 12 ls []) := by
    intro n12
    induction n12 with
    | zero => intro x7 M8 H locs ls hl hW hS hf; exact hf.elim
    | succ n12 ih12 =>
      intro x7 M8 H locs ls hl hW hS hf
      replace hf : L_X12_empties_12 Y v0 v1 Kn x7 M8 (LOOP2 (L_X12_empties_12 Y v0 v1 Kn) n12) := hf
      unfold L_X12_empties_12 at hf
      refine lv_iload_n hx hb dX12_empties_12 rfl (lv_at hl 2 rfl) ?_
      refine lv_bipush (v := 8) hx hb dX12_empties_13 (by decide +kernel) ?_
      refine lv_iload_n hx hb dX12_empties_15 rfl (lv_at hl 1 rfl) ?_
      refine lv_imul hx hb dX12_empties_16 ?_
      refine lv_bipush (v := 8) hx hb dX12_empties_17 (by decide +kernel) ?_
      refine lv_iadd hx hb dX12_empties_19 ?_
      refine lv_icmp_ge (tgt := 43) hx hb dX12_empties_20 (by decide) (fun c9 => ?_) (fun c9 => ?_)
      · replace hf := hf.1 c9
        exact gm_vret hx hb hr hlocks hW hS hf dX12_empties_43
      · replace hf := hf.2 c9
        refine lv_aload_n hx hb dX12_empties_23 rfl (lv_at hl 0 rfl) ?_
        obtain ⟨b10, hb10, hf⟩ := hf
        refine gm_getR (C := RX12) (T := TX12) (N := 68) (j := 37) hx hb hts inT_12 hown hK hW k1 (by decide) rfl (by decide) rfl (hts _ kw_1353) rfl dX12_empties_24 hb10 ?_
        refine lv_iload_n hx hb dX12_empties_27 rfl (lv_at hl 2 rfl) ?_
        refine lv_iconst (v := 0) hx hb dX12_empties_28 (by decide +kernel) ?_
        obtain ⟨k11, hf⟩ := hf
        obtain ⟨h12, hf⟩ := hf
        obtain ⟨z13, hf⟩ := hf
        refine gm_zast hx hb hK hW hS k11 h12 (bz_v z13) dX12_empties_29 (fun H locs M14 eM14 hW hS => ?_)
        replace hf := hf M14 eM14
        refine lv_aload_n hx hb dX12_empties_30 rfl (lv_at hl 0 rfl) ?_
        obtain ⟨b15, hb15, hf⟩ := hf
        refine gm_getR (C := RX12) (T := TX12) (N := 68) (j := 38) hx hb hts inT_12 hown hK hW k1 (by decide) rfl (by decide) rfl (hts _ kw_1354) rfl dX12_empties_31 hb15 ?_
        refine lv_iload_n hx hb dX12_empties_34 rfl (lv_at hl 2 rfl) ?_
        refine lv_iconst (v := 0) hx hb dX12_empties_35 (by decide +kernel) ?_
        obtain ⟨k16, hf⟩ := hf
        obtain ⟨h17, hf⟩ := hf
        obtain ⟨z18, hf⟩ := hf
        refine gm_zast hx hb hK hW hS k16 h17 (bz_v z18) dX12_empties_36 (fun H locs M19 eM19 hW hS => ?_)
        replace hf := hf M19 eM19
        obtain ⟨x20, ex20⟩ : ∃ y : Int32, y = x7 + 1 := ⟨_, rfl⟩
        replace hf := hf x20 ex20
        refine lv_iinc (v := x20) (lv' := [(2, .int x20), (0, .ref v0), (1, .int v1)]) hx hb dX12_empties_37 hl (k := 2) rfl (by rw [ex20]; rfl) (by decide) rfl (fun ls hl => ?_)
        refine lv_goto (tgt := 12) hx hb dX12_empties_40 (by decide) ?_
        exact ih12 _ _ _ _ _ (lv_sub hl [1, 2, 0] rfl) hW hS hf
  exact lp12 n12 _ _ _ _ _ (lv_sub hl [1, 2, 0] rfl) hW hS hf

abbrev rm_X12_mayBeDone : Room := { frames := 6, cells := 0, slots := 0, locals := 178 }
def f_X12_mayBeDone_118 (Y : Ly) (v0 : Nat) (x18 : Int32) (M19 : Mm) (again79 : Int32 → Mm → Prop) (b30 : Nat) (y34 : Int32) : Prop :=
  yK Y b30 = 103 ∧ (vp_in x18 (yN Y b30) ∧ (bz y34 ∧ (∀ M38 : Mm, M38 = sI M19 b30 (m1 (mI M19 b30) x18.toNatClampNeg y34) → (∃ b39 : Nat, mR M38 v0 39 = some b39 ∧ (yK Y b39 = 101 ∧ (vp_in x18 (yN Y b39) ∧ (∀ M42 : Mm, M42 = sI M38 b39 (m1 (mI M38 b39) x18.toNatClampNeg (mI M38 v0 4)) → (∀ x43 : Int32, x43 = x18 + 1 → (again79 x43 M42)))))))))
def f_X12_mayBeDone_117 (Y : Ly) (v0 : Nat) (x18 : Int32) (M19 : Mm) (again79 : Int32 → Mm → Prop) (b30 : Nat) : Prop :=
  f_X12_mayBeDone_118 Y v0 x18 M19 again79 b30 0
def L_X12_mayBeDone_79 (Y : Ly) (v0 : Nat) (v1 : Int32) (Kn : Mm → Prop) (x18 : Int32) (M19 : Mm) (again79 : Int32 → Mm → Prop) : Prop :=
  (((8 * v1) + 8) ≤ x18 → (∃ b21 : Nat, mR M19 v0 35 = some b21 ∧ (yK Y b21 = 101 ∧ (vp_in v1 (yN Y b21) ∧ (vp_in v1 (yN Y b21) ∧ (∀ M25 : Mm, M25 = sI M19 b21 (m1 (mI M19 b21) v1.toNatClampNeg ((mI M19 b21 v1.toNatClampNeg) + 1)) → (∃ b26 : Nat, mR M25 v0 34 = some b26 ∧ (yK Y b26 = 101 ∧ (vp_in v1 (yN Y b26) ∧ (∀ M29 : Mm, M29 = sI M25 b26 (m1 (mI M25 b26) v1.toNatClampNeg 2) → (Kn M29))))))))))) ∧ (¬ (((8 * v1) + 8) ≤ x18) → (∃ b30 : Nat, mR M19 v0 37 = some b30 ∧ (∃ b31 : Nat, mR M19 v0 37 = some b31 ∧ (yK Y b31 = 103 ∧ (vp_in x18 (yN Y b31) ∧ (((mI M19 b31 x18.toNatClampNeg) = 0 → (f_X12_mayBeDone_117 Y v0 x18 M19 again79 b30)) ∧ (¬ ((mI M19 b31 x18.toNatClampNeg) = 0) → (∃ b45 : Nat, mR M19 v0 38 = some b45 ∧ (yK Y b45 = 103 ∧ (vp_in x18 (yN Y b45) ∧ (((mI M19 b45 x18.toNatClampNeg) = 0 → (f_X12_mayBeDone_117 Y v0 x18 M19 again79 b30)) ∧ (¬ ((mI M19 b45 x18.toNatClampNeg) = 0) → (f_X12_mayBeDone_118 Y v0 x18 M19 again79 b30 1)))))))))))))
def f_X12_mayBeDone_42 (Y : Ly) (v0 : Nat) (v1 : Int32) (Kn : Mm → Prop) (r7 : Int32) (M8 : Mm) : Prop :=
  (¬ r7 = 0 → (∃ b11 : Nat, mR M8 v0 35 = some b11 ∧ (yK Y b11 = 101 ∧ (vp_in v1 (yN Y b11) ∧ (f_X12_notes Y v0 v1 255 (((mI M8 b11 v1.toNatClampNeg).toInt64) + 1) M8 (fun r15 M14 => ((r15 = 1 → (∀ x17 : Int32, x17 = 8 * v1 → (∃ n, LOOP2 (L_X12_mayBeDone_79 Y v0 v1 Kn) n x17 M14))) ∧ (¬ (r15 = 1) → (Kn M14))))))))) ∧ (r7 = 0 → (f_X12_empties Y v0 v1 M8 (fun M49 => (Kn M49))))
def f_X12_mayBeDone (Y : Ly) (v0 : Nat) (v1 : Int32) (M : Mm) (Kn : Mm → Prop) : Prop :=
  yK Y v0 = 12 ∧ (∃ b2 : Nat, mR M v0 34 = some b2 ∧ (yK Y b2 = 101 ∧ (vp_in v1 (yN Y b2) ∧ (((mI M b2 v1.toNatClampNeg) = 1 → (f_X12_countOfGroup Y v0 v1 1 M (fun r7 M6 => (f_X12_countOfGroup Y v0 v1 0 M6 (fun r9 M8 => ((r9 ≤ r7 → (f_X12_mayBeDone_42 Y v0 v1 Kn r7 M8)) ∧ (¬ (r9 ≤ r7) → (∃ b51 : Nat, mR M8 v0 36 = some b51 ∧ (yK Y b51 = 101 ∧ (vp_in v1 (yN Y b51) ∧ (((mI M8 b51 v1.toNatClampNeg) ≤ (mI M8 v0 4) → (f_X12_mayBeDone_42 Y v0 v1 Kn r7 M8)) ∧ (¬ ((mI M8 b51 v1.toNatClampNeg) ≤ (mI M8 v0 4)) → (Kn M8))))))))))))) ∧ (¬ ((mI M b2 v1.toNatClampNeg) = 1) → (Kn M))))))
set_option maxHeartbeats 4000000 in
set_option maxRecDepth 100000 in
theorem m_X12_mayBeDone (l : Launch) (D : va_G) (cy : Cy) (tq sz : Nat) (Y : Ly) (v0 : Nat) (v1 : Int32) (M : Mm) (Kn : Mm → Prop) : Met l yX12_mayBeDone (Cond.code yX12_mayBeDone cX12_mayBeDone 4 none :: TT) rm_X12_mayBeDone (PcG D cy tq [.ref v0, .int v1] sz Y M (f_X12_mayBeDone Y v0 v1 M Kn)) (va_Qv Kn (BG D cy (Am Y sz) Y) (Am Y sz)) 0 0 (Am Y sz) := by
  refine Met.ofW (cc := cX12_mayBeDone) (maxL := 4) (ret := none) (by decide) rfl ?_
  intro p e s m args below meth c s₁ B hml hv
  obtain ⟨hargs, hsz, hW, hK, hC, hf⟩ := hv
  subst hsz
  have hx := B.exec
  have hb := B.bytes
  have hr := B.returns
  have hts : ∀ w ∈ TT, w.before args s = true := fun w h => atoms_spec (ws := Cond.code yX12_mayBeDone cX12_mayBeDone 4 none :: TT) B.pre w (List.mem_cons_of_mem _ h)
  have hown : s.vm.findClass RX12 = some m.cls := findClass_of_methodNamed B.named
  have hlocks := B.notSynchronized
  replace hW := Wd_self (sz := s.heap.size) hW
  generalize hAe : Am Y s.heap.size = A at hW hC ⊢
  have hA : ∀ q : Nat, s.heap.size ≤ q → A q := fun q h => by rw [← hAe]; exact Or.inr h
  clear hAe
  have hS : va_S A s.heap s.heap [] := va_S.rf
  obtain ⟨ls, hE, hl⟩ := gm_entry m [.ref v0, .int v1] (n := 4) hargs (Nat.le_of_ble_eq_true rfl)
  rw [hE]
  have hl : lv_has ls 4 [(0, .ref v0), (1, .int v1)] := hl
  show W p l e rm_X12_mayBeDone s m args below meth c s.heap [] 0 0 (MQ below (va_Qv Kn (BG D cy A Y) A) args s 0 0 A) (F0 m 0 ls [])
  unfold f_X12_mayBeDone at hf
  refine lv_aload_n hx hb dX12_mayBeDone_0 rfl (lv_at hl 0 rfl) ?_
  obtain ⟨k1, hf⟩ := hf
  obtain ⟨b2, hb2, hf⟩ := hf
  refine gm_getR (C := RX12) (T := TX12) (N := 68) (j := 34) hx hb hts inT_12 hown hK hW k1 (by decide) rfl (by decide) rfl (hts _ kw_1350) rfl dX12_mayBeDone_1 hb2 ?_
  refine lv_iload_n hx hb dX12_mayBeDone_4 rfl (lv_at hl 1 rfl) ?_
  obtain ⟨k3, hf⟩ := hf
  obtain ⟨h4, hf⟩ := hf
  refine gm_iald hx hb hK hW k3 h4 dX12_mayBeDone_5 ?_
  refine lv_iconst (v := 1) hx hb dX12_mayBeDone_6 (by decide +kernel) ?_
  refine lv_icmp_eq (tgt := 11) hx hb dX12_mayBeDone_7 (by decide) (fun c5 => ?_) (fun c5 => ?_)
  · replace hf := hf.1 c5
    refine lv_aload_n hx hb dX12_mayBeDone_11 rfl (lv_at hl 0 rfl) ?_
    refine lv_iload_n hx hb dX12_mayBeDone_12 rfl (lv_at hl 1 rfl) ?_
    refine lv_iconst (v := 1) hx hb dX12_mayBeDone_13 (by decide +kernel) ?_
    refine gm_ci (va_runV (As := [.int v1, .int 1]) (rest := []) ⟨hx, hb, hml, hown, hts⟩ (m_X12_countOfGroup l D cy tq _ Y _ _ _ _ _) (cwV 2 hts (good_V kw_1705 kw_1706 kw_1868 kw_12 kw_1707) rfl rfl rfl (by decide +kernel) ⟨Nat.le_of_ble_eq_true rfl, Nat.le_of_ble_eq_true rfl⟩) (gm_preV hK hW hC hS hA k1 (by decide) (q := (RX12, TX12, 68)) rfl rfl hf) rfl rfl hl.1 rfl (lv_room (Nat.le_of_ble_eq_true rfl)) dX12_mayBeDone_14 ⟨Nat.le_of_ble_eq_true rfl, Nat.le_of_ble_eq_true rfl⟩) hW hS hA (fun r7 M6 H locs hW hS hf => ?_)
    refine lv_istore_n (lv' := [(2, .int r7), (0, .ref v0), (1, .int v1)]) hx hb dX12_mayBeDone_17 rfl hl (by decide) rfl (fun ls hl => ?_)
    refine lv_iload_n hx hb dX12_mayBeDone_18 rfl (lv_at hl 0 rfl) ?_
    refine lv_aload_n hx hb dX12_mayBeDone_19 rfl (lv_at hl 1 rfl) ?_
    refine lv_iload_n hx hb dX12_mayBeDone_20 rfl (lv_at hl 2 rfl) ?_
    refine lv_iconst (v := 0) hx hb dX12_mayBeDone_21 (by decide +kernel) ?_
    refine gm_ci (va_runV (As := [.int v1, .int 0]) (rest := [.int r7]) ⟨hx, hb, hml, hown, hts⟩ (m_X12_countOfGroup l D cy tq _ Y _ _ _ _ _) (cwV 2 hts (good_V kw_1705 kw_1706 kw_1868 kw_12 kw_1707) rfl rfl rfl (by decide +kernel) ⟨Nat.le_of_ble_eq_true rfl, Nat.le_of_ble_eq_true rfl⟩) (gm_preV hK hW hC hS hA k1 (by decide) (q := (RX12, TX12, 68)) rfl rfl hf) rfl rfl hl.1 rfl (lv_room (Nat.le_of_ble_eq_true rfl)) dX12_mayBeDone_22 ⟨Nat.le_of_ble_eq_true rfl, Nat.le_of_ble_eq_true rfl⟩) hW hS hA (fun r9 M8 H locs hW hS hf => ?_)
    have j42 : ∀ (H : Heap) (locs : List Loc) (ls : Array Slot), lv_has ls 4 [(0, .ref v0), (1, .int v1), (2, .int r7)] → Wd D cy A Y M8 H → va_S A s.heap H locs → f_X12_mayBeDone_42 Y v0 v1 Kn r7 M8  → W p l e rm_X12_mayBeDone s m args below meth c H locs 0 0 (MQ below (va_Qv Kn (BG D cy A Y) A) args s 0 0 A) (F0 m 42 ls []) := by
      intro  H locs ls hl hW hS hf
      unfold f_X12_mayBeDone_42 at hf
      refine lv_iload_n hx hb dX12_mayBeDone_42 rfl (lv_at hl 2 rfl) ?_
      refine lv_if_ne (tgt := 52) hx hb dX12_mayBeDone_43 (by decide) (fun c10 => ?_) (fun c10 => ?_)
      · replace hf := hf.1 c10
        refine lv_aload_n hx hb dX12_mayBeDone_52 rfl (lv_at hl 0 rfl) ?_
        refine lv_iload_n hx hb dX12_mayBeDone_53 rfl (lv_at hl 1 rfl) ?_
        refine lv_sipush (v := 255) hx hb dX12_mayBeDone_54 (by decide +kernel) ?_
        refine lv_aload_n hx hb dX12_mayBeDone_57 rfl (lv_at hl 0 rfl) ?_
        obtain ⟨b11, hb11, hf⟩ := hf
        refine gm_getR (C := RX12) (T := TX12) (N := 68) (j := 35) hx hb hts inT_12 hown hK hW k1 (by decide) rfl (by decide) rfl (hts _ kw_1351) rfl dX12_mayBeDone_58 hb11 ?_
        refine lv_iload_n hx hb dX12_mayBeDone_61 rfl (lv_at hl 1 rfl) ?_
        obtain ⟨k12, hf⟩ := hf
        obtain ⟨h13, hf⟩ := hf
        refine gm_iald hx hb hK hW k12 h13 dX12_mayBeDone_62 ?_
        refine lv_i2l hx hb dX12_mayBeDone_63 rfl ?_
        refine lv_lconst (v := 1) hx hb dX12_mayBeDone_64 (by decide) ?_
        refine lv_ladd hx hb dX12_mayBeDone_65 ?_
        refine gm_ci (va_runV (As := [.int v1, .int 255, .long (((mI M8 b11 v1.toNatClampNeg).toInt64) + 1)]) (rest := []) ⟨hx, hb, hml, hown, hts⟩ (m_X12_notes l D cy tq _ Y _ _ _ _ _ _) (cwV 3 hts (good_V kw_1711 kw_1712 kw_1870 kw_12 kw_1713) rfl rfl rfl (by decide +kernel) ⟨Nat.le_of_ble_eq_true rfl, Nat.le_of_ble_eq_true rfl⟩) (gm_preV hK hW hC hS hA k1 (by decide) (q := (RX12, TX12, 68)) rfl rfl hf) rfl rfl hl.1 rfl (lv_room (Nat.le_of_ble_eq_true rfl)) dX12_mayBeDone_66 ⟨Nat.le_of_ble_eq_true rfl, Nat.le_of_ble_eq_true rfl⟩) hW hS hA (fun r15 M14 H locs hW hS hf => ?_)
        refine lv_iconst (v := 1) hx hb dX12_mayBeDone_69 (by decide +kernel) ?_
        refine lv_icmp_eq (tgt := 74) hx hb dX12_mayBeDone_70 (by decide) (fun c16 => ?_) (fun c16 => ?_)
        · replace hf := hf.1 c16
          refine lv_bipush (v := 8) hx hb dX12_mayBeDone_74 (by decide +kernel) ?_
          refine lv_iload_n hx hb dX12_mayBeDone_76 rfl (lv_at hl 1 rfl) ?_
          refine lv_imul hx hb dX12_mayBeDone_77 ?_
          refine lv_topi (fun x17 ex17 => ?_)
          replace hf := hf x17 ex17
          refine lv_istore_n (lv' := [(3, .int x17), (0, .ref v0), (1, .int v1), (2, .int r7)]) hx hb dX12_mayBeDone_78 rfl hl (by decide) rfl (fun ls hl => ?_)
          obtain ⟨n79, hf⟩ := hf
          have lp79 : ∀ (n79 : Nat) (x18 : Int32) (M19 : Mm) (H : Heap) (locs : List Loc) (ls : Array Slot), lv_has ls 4 [(0, .ref v0), (1, .int v1), (3, .int x18)] → Wd D cy A Y M19 H → va_S A s.heap H locs → LOOP2 (L_X12_mayBeDone_79 Y v0 v1 Kn) n79 x18 M19 → W p l e rm_X12_mayBeDone s m args below meth c H locs 0 0 (MQ below (va_Qv Kn (BG D cy A Y) A) args s 0 0 A) (F0 m 79 ls []) := by
            intro n79
            induction n79 with
            | zero => intro x18 M19 H locs ls hl hW hS hf; exact hf.elim
            | succ n79 ih79 =>
              intro x18 M19 H locs ls hl hW hS hf
              replace hf : L_X12_mayBeDone_79 Y v0 v1 Kn x18 M19 (LOOP2 (L_X12_mayBeDone_79 Y v0 v1 Kn) n79) := hf
              unfold L_X12_mayBeDone_79 at hf
              refine lv_iload_n hx hb dX12_mayBeDone_79 rfl (lv_at hl 2 rfl) ?_
              refine lv_bipush (v := 8) hx hb dX12_mayBeDone_80 (by decide +kernel) ?_
              refine lv_iload_n hx hb dX12_mayBeDone_82 rfl (lv_at hl 1 rfl) ?_
              refine lv_imul hx hb dX12_mayBeDone_83 ?_
              refine lv_bipush (v := 8) hx hb dX12_mayBeDone_84 (by decide +kernel) ?_
              refine lv_iadd hx hb dX12_mayBeDone_86 ?_
              refine lv_icmp_ge (tgt := 135) hx hb dX12_mayBeDone_87 (by decide) (fun c20 => ?_) (fun c20 => ?_)
              · replace hf := hf.1 c20
                refine lv_aload_n hx hb dX12_mayBeDone_135 rfl (lv_at hl 0 rfl) ?_
                obtain ⟨b21, hb21, hf⟩ := hf
                refine gm_getR (C := RX12) (T := TX12) (N := 68) (j := 35) hx hb hts inT_12 hown hK hW k1 (by decide) rfl (by decide) rfl (hts _ kw_1351) rfl dX12_mayBeDone_136 hb21 ?_
                refine lv_iload_n hx hb dX12_mayBeDone_139 rfl (lv_at hl 1 rfl) ?_
                refine lv_dup2_11 hx hb dX12_mayBeDone_140 rfl rfl ?_
                obtain ⟨k22, hf⟩ := hf
                obtain ⟨h23, hf⟩ := hf
                refine gm_iald hx hb hK hW k22 h23 dX12_mayBeDone_141 ?_
                refine lv_iconst (v := 1) hx hb dX12_mayBeDone_142 (by decide +kernel) ?_
                refine lv_iadd hx hb dX12_mayBeDone_143 ?_
                obtain ⟨h24, hf⟩ := hf
                refine gm_iast hx hb hK hW hS k22 h24 dX12_mayBeDone_144 (fun H locs M25 eM25 hW hS => ?_)
                replace hf := hf M25 eM25
                refine lv_aload_n hx hb dX12_mayBeDone_145 rfl (lv_at hl 0 rfl) ?_
                obtain ⟨b26, hb26, hf⟩ := hf
                refine gm_getR (C := RX12) (T := TX12) (N := 68) (j := 34) hx hb hts inT_12 hown hK hW k1 (by decide) rfl (by decide) rfl (hts _ kw_1350) rfl dX12_mayBeDone_146 hb26 ?_
                refine lv_iload_n hx hb dX12_mayBeDone_149 rfl (lv_at hl 1 rfl) ?_
                refine lv_iconst (v := 2) hx hb dX12_mayBeDone_150 (by decide +kernel) ?_
                obtain ⟨k27, hf⟩ := hf
                obtain ⟨h28, hf⟩ := hf
                refine gm_iast hx hb hK hW hS k27 h28 dX12_mayBeDone_151 (fun H locs M29 eM29 hW hS => ?_)
                replace hf := hf M29 eM29
                exact gm_vret hx hb hr hlocks hW hS hf dX12_mayBeDone_152
              · replace hf := hf.2 c20
                refine lv_aload_n hx hb dX12_mayBeDone_90 rfl (lv_at hl 0 rfl) ?_
                obtain ⟨b30, hb30, hf⟩ := hf
                refine gm_getR (C := RX12) (T := TX12) (N := 68) (j := 37) hx hb hts inT_12 hown hK hW k1 (by decide) rfl (by decide) rfl (hts _ kw_1353) rfl dX12_mayBeDone_91 hb30 ?_
                refine lv_iload_n hx hb dX12_mayBeDone_94 rfl (lv_at hl 2 rfl) ?_
                refine lv_aload_n hx hb dX12_mayBeDone_95 rfl (lv_at hl 0 rfl) ?_
                obtain ⟨b31, hb31, hf⟩ := hf
                refine gm_getR (C := RX12) (T := TX12) (N := 68) (j := 37) hx hb hts inT_12 hown hK hW k1 (by decide) rfl (by decide) rfl (hts _ kw_1353) rfl dX12_mayBeDone_96 hb31 ?_
                refine lv_iload_n hx hb dX12_mayBeDone_99 rfl (lv_at hl 2 rfl) ?_
                obtain ⟨k32, hf⟩ := hf
                obtain ⟨h33, hf⟩ := hf
                refine gm_zald hx hb hK hW k32 h33 dX12_mayBeDone_100 ?_
                have j118 : ∀ (y34 : Int32) (H : Heap) (locs : List Loc) (ls : Array Slot), lv_has ls 4 [(0, .ref v0), (1, .int v1), (3, .int x18)] → Wd D cy A Y M19 H → va_S A s.heap H locs → f_X12_mayBeDone_118 Y v0 x18 M19 (LOOP2 (L_X12_mayBeDone_79 Y v0 v1 Kn) n79) b30 y34 → W p l e rm_X12_mayBeDone s m args below meth c H locs 0 0 (MQ below (va_Qv Kn (BG D cy A Y) A) args s 0 0 A) (F0 m 118 ls [.int y34, .int x18, .ref b30]) := by
                  intro y34 H locs ls hl hW hS hf
                  unfold f_X12_mayBeDone_118 at hf
                  obtain ⟨k35, hf⟩ := hf
                  obtain ⟨h36, hf⟩ := hf
                  obtain ⟨z37, hf⟩ := hf
                  refine gm_zast hx hb hK hW hS k35 h36 (bz_v z37) dX12_mayBeDone_118 (fun H locs M38 eM38 hW hS => ?_)
                  replace hf := hf M38 eM38
                  refine lv_aload_n hx hb dX12_mayBeDone_119 rfl (lv_at hl 0 rfl) ?_
                  obtain ⟨b39, hb39, hf⟩ := hf
                  refine gm_getR (C := RX12) (T := TX12) (N := 68) (j := 39) hx hb hts inT_12 hown hK hW k1 (by decide) rfl (by decide) rfl (hts _ kw_1355) rfl dX12_mayBeDone_120 hb39 ?_
                  refine lv_iload_n hx hb dX12_mayBeDone_123 rfl (lv_at hl 2 rfl) ?_
                  refine lv_aload_n hx hb dX12_mayBeDone_124 rfl (lv_at hl 0 rfl) ?_
                  refine gm_getI (C := RX12) (T := TX12) (N := 68) (j := 4) hx hb hts inT_12 hown hK hW k1 (by decide) rfl (by decide) rfl (hts _ kw_1320) rfl dX12_mayBeDone_125 ?_
                  obtain ⟨k40, hf⟩ := hf
                  obtain ⟨h41, hf⟩ := hf
                  refine gm_iast hx hb hK hW hS k40 h41 dX12_mayBeDone_128 (fun H locs M42 eM42 hW hS => ?_)
                  replace hf := hf M42 eM42
                  obtain ⟨x43, ex43⟩ : ∃ y : Int32, y = x18 + 1 := ⟨_, rfl⟩
                  replace hf := hf x43 ex43
                  refine lv_iinc (v := x43) (lv' := [(3, .int x43), (0, .ref v0), (1, .int v1)]) hx hb dX12_mayBeDone_129 hl (k := 2) rfl (by rw [ex43]; rfl) (by decide) rfl (fun ls hl => ?_)
                  refine lv_goto (tgt := 79) hx hb dX12_mayBeDone_132 (by decide) ?_
                  exact ih79 _ _ _ _ _ (lv_sub hl [1, 2, 0] rfl) hW hS hf
                have j117 : ∀ (H : Heap) (locs : List Loc) (ls : Array Slot), lv_has ls 4 [(0, .ref v0), (1, .int v1), (3, .int x18)] → Wd D cy A Y M19 H → va_S A s.heap H locs → f_X12_mayBeDone_117 Y v0 x18 M19 (LOOP2 (L_X12_mayBeDone_79 Y v0 v1 Kn) n79) b30  → W p l e rm_X12_mayBeDone s m args below meth c H locs 0 0 (MQ below (va_Qv Kn (BG D cy A Y) A) args s 0 0 A) (F0 m 117 ls [.int x18, .ref b30]) := by
                  intro  H locs ls hl hW hS hf
                  unfold f_X12_mayBeDone_117 at hf
                  refine lv_iconst (v := 0) hx hb dX12_mayBeDone_117 (by decide +kernel) ?_
                  exact j118 _ _ _ _ (lv_sub hl [0, 1, 2] rfl) hW hS hf
                refine lv_if_eq (tgt := 117) hx hb dX12_mayBeDone_101 (by decide) (fun c44 => ?_) (fun c44 => ?_)
                · replace hf := hf.1 c44
                  exact j117  _ _ _ (lv_sub hl [0, 1, 2] rfl) hW hS hf
                · replace hf := hf.2 c44
                  refine lv_aload_n hx hb dX12_mayBeDone_104 rfl (lv_at hl 0 rfl) ?_
                  obtain ⟨b45, hb45, hf⟩ := hf
                  refine gm_getR (C := RX12) (T := TX12) (N := 68) (j := 38) hx hb hts inT_12 hown hK hW k1 (by decide) rfl (by decide) rfl (hts _ kw_1354) rfl dX12_mayBeDone_105 hb45 ?_
                  refine lv_iload_n hx hb dX12_mayBeDone_108 rfl (lv_at hl 2 rfl) ?_
                  obtain ⟨k46, hf⟩ := hf
                  obtain ⟨h47, hf⟩ := hf
                  refine gm_zald hx hb hK hW k46 h47 dX12_mayBeDone_109 ?_
                  refine lv_if_eq (tgt := 117) hx hb dX12_mayBeDone_110 (by decide) (fun c48 => ?_) (fun c48 => ?_)
                  · replace hf := hf.1 c48
                    exact j117  _ _ _ (lv_sub hl [0, 1, 2] rfl) hW hS hf
                  · replace hf := hf.2 c48
                    refine lv_iconst (v := 1) hx hb dX12_mayBeDone_113 (by decide +kernel) ?_
                    refine lv_goto (tgt := 118) hx hb dX12_mayBeDone_114 (by decide) ?_
                    exact j118 _ _ _ _ (lv_sub hl [0, 1, 2] rfl) hW hS hf
          exact lp79 n79 _ _ _ _ _ (lv_sub hl [1, 2, 0] rfl) hW hS hf
        · replace hf := hf.2 c16
          exact gm_vret hx hb hr hlocks hW hS hf dX12_mayBeDone_73
      · replace hf := hf.2 c10
        refine lv_aload_n hx hb dX12_mayBeDone_46 rfl (lv_at hl 0 rfl) ?_
        refine lv_iload_n hx hb dX12_mayBeDone_47 rfl (lv_at hl 1 rfl) ?_
        refine gm_cv (va_runV (As := [.int v1]) (rest := []) ⟨hx, hb, hml, hown, hts⟩ (m_X12_empties l D cy tq _ Y _ _ _ _) (cwV 1 hts (good_V kw_1708 kw_1709 kw_1869 kw_12 kw_1710) rfl rfl rfl (by decide +kernel) ⟨Nat.le_of_ble_eq_true rfl, Nat.le_of_ble_eq_true rfl⟩) (gm_preV hK hW hC hS hA k1 (by decide) (q := (RX12, TX12, 68)) rfl rfl hf) rfl rfl hl.1 rfl (lv_room (Nat.le_of_ble_eq_true rfl)) dX12_mayBeDone_48 ⟨Nat.le_of_ble_eq_true rfl, Nat.le_of_ble_eq_true rfl⟩) hW hS hA (fun M49 H locs hW hS hf => ?_)
        exact gm_vret hx hb hr hlocks hW hS hf dX12_mayBeDone_51
    refine lv_icmp_ge (tgt := 42) hx hb dX12_mayBeDone_25 (by decide) (fun c50 => ?_) (fun c50 => ?_)
    · replace hf := hf.1 c50
      exact j42  _ _ _ (lv_sub hl [1, 2, 0] rfl) hW hS hf
    · replace hf := hf.2 c50
      refine lv_aload_n hx hb dX12_mayBeDone_28 rfl (lv_at hl 1 rfl) ?_
      refine gm_getI (C := RX12) (T := TX12) (N := 68) (j := 4) hx hb hts inT_12 hown hK hW k1 (by decide) rfl (by decide) rfl (hts _ kw_1320) rfl dX12_mayBeDone_29 ?_
      refine lv_aload_n hx hb dX12_mayBeDone_32 rfl (lv_at hl 1 rfl) ?_
      obtain ⟨b51, hb51, hf⟩ := hf
      refine gm_getR (C := RX12) (T := TX12) (N := 68) (j := 36) hx hb hts inT_12 hown hK hW k1 (by decide) rfl (by decide) rfl (hts _ kw_1352) rfl dX12_mayBeDone_33 hb51 ?_
      refine lv_iload_n hx hb dX12_mayBeDone_36 rfl (lv_at hl 2 rfl) ?_
      obtain ⟨k52, hf⟩ := hf
      obtain ⟨h53, hf⟩ := hf
      refine gm_iald hx hb hK hW k52 h53 dX12_mayBeDone_37 ?_
      refine lv_icmp_ge (tgt := 42) hx hb dX12_mayBeDone_38 (by decide) (fun c54 => ?_) (fun c54 => ?_)
      · replace hf := hf.1 c54
        exact j42  _ _ _ (lv_sub hl [1, 2, 0] rfl) hW hS hf
      · replace hf := hf.2 c54
        exact gm_vret hx hb hr hlocks hW hS hf dX12_mayBeDone_41
  · replace hf := hf.2 c5
    exact gm_vret hx hb hr hlocks hW hS hf dX12_mayBeDone_10

abbrev rm_X12_without : Room := { frames := 3, cells := 0, slots := 0, locals := 104 }
def f_X12_without_32 (Y : Ly) (Kn : Mm → Prop) (M4 : Mm) : Prop :=
  Kn M4
def f_X12_without (Y : Ly) (v0 : Nat) (v1 : Int32) (M : Mm) (Kn : Mm → Prop) : Prop :=
  yK Y v0 = 12 ∧ (f_X12_countOfGroup Y v0 v1 0 M (fun r2 M1 => ((¬ r2 = 0 → (∃ b6 : Nat, mR M1 v0 34 = some b6 ∧ (yK Y b6 = 101 ∧ (vp_in v1 (yN Y b6) ∧ ((¬ (mI M1 b6 v1.toNatClampNeg) = 2 → (f_X12_without_32 Y Kn M1)) ∧ ((mI M1 b6 v1.toNatClampNeg) = 2 → (f_X12_mixes Y v0 v1 M1 (fun M10 => (f_X12_without_32 Y Kn M10))))))))) ∧ (r2 = 0 → (f_X12_empties Y v0 v1 M1 (fun M11 => (f_X12_without_32 Y Kn M11)))))))
set_option maxHeartbeats 4000000 in
set_option maxRecDepth 100000 in
theorem m_X12_without (l : Launch) (D : va_G) (cy : Cy) (tq sz : Nat) (Y : Ly) (v0 : Nat) (v1 : Int32) (M : Mm) (Kn : Mm → Prop) : Met l yX12_without (Cond.code yX12_without cX12_without 2 none :: TT) rm_X12_without (PcG D cy tq [.ref v0, .int v1] sz Y M (f_X12_without Y v0 v1 M Kn)) (va_Qv Kn (BG D cy (Am Y sz) Y) (Am Y sz)) 0 0 (Am Y sz) := by
  refine Met.ofW (cc := cX12_without) (maxL := 2) (ret := none) (by decide) rfl ?_
  intro p e s m args below meth c s₁ B hml hv
  obtain ⟨hargs, hsz, hW, hK, hC, hf⟩ := hv
  subst hsz
  have hx := B.exec
  have hb := B.bytes
  have hr := B.returns
  have hts : ∀ w ∈ TT, w.before args s = true := fun w h => atoms_spec (ws := Cond.code yX12_without cX12_without 2 none :: TT) B.pre w (List.mem_cons_of_mem _ h)
  have hown : s.vm.findClass RX12 = some m.cls := findClass_of_methodNamed B.named
  have hlocks := B.notSynchronized
  replace hW := Wd_self (sz := s.heap.size) hW
  generalize hAe : Am Y s.heap.size = A at hW hC ⊢
  have hA : ∀ q : Nat, s.heap.size ≤ q → A q := fun q h => by rw [← hAe]; exact Or.inr h
  clear hAe
  have hS : va_S A s.heap s.heap [] := va_S.rf
  obtain ⟨ls, hE, hl⟩ := gm_entry m [.ref v0, .int v1] (n := 2) hargs (Nat.le_of_ble_eq_true rfl)
  rw [hE]
  have hl : lv_has ls 2 [(0, .ref v0), (1, .int v1)] := hl
  show W p l e rm_X12_without s m args below meth c s.heap [] 0 0 (MQ below (va_Qv Kn (BG D cy A Y) A) args s 0 0 A) (F0 m 0 ls [])
  unfold f_X12_without at hf
  refine lv_aload_n hx hb dX12_without_0 rfl (lv_at hl 0 rfl) ?_
  refine lv_iload_n hx hb dX12_without_1 rfl (lv_at hl 1 rfl) ?_
  refine lv_iconst (v := 0) hx hb dX12_without_2 (by decide +kernel) ?_
  obtain ⟨k3, hf⟩ := hf
  refine gm_ci (va_runV (As := [.int v1, .int 0]) (rest := []) ⟨hx, hb, hml, hown, hts⟩ (m_X12_countOfGroup l D cy tq _ Y _ _ _ _ _) (cwV 2 hts (good_V kw_1705 kw_1706 kw_1868 kw_12 kw_1707) rfl rfl rfl (by decide +kernel) ⟨Nat.le_of_ble_eq_true rfl, Nat.le_of_ble_eq_true rfl⟩) (gm_preV hK hW hC hS hA k3 (by decide) (q := (RX12, TX12, 68)) rfl rfl hf) rfl rfl hl.1 rfl (lv_room (Nat.le_of_ble_eq_true rfl)) dX12_without_3 ⟨Nat.le_of_ble_eq_true rfl, Nat.le_of_ble_eq_true rfl⟩) hW hS hA (fun r2 M1 H locs hW hS hf => ?_)
  have j32 : ∀ (M4 : Mm) (H : Heap) (locs : List Loc) (ls : Array Slot), lv_has ls 2 [] → Wd D cy A Y M4 H → va_S A s.heap H locs → f_X12_without_32 Y Kn M4 → W p l e rm_X12_without s m args below meth c H locs 0 0 (MQ below (va_Qv Kn (BG D cy A Y) A) args s 0 0 A) (F0 m 32 ls []) := by
    intro M4 H locs ls hl hW hS hf
    unfold f_X12_without_32 at hf
    exact gm_vret hx hb hr hlocks hW hS hf dX12_without_32
  refine lv_if_ne (tgt := 17) hx hb dX12_without_6 (by decide) (fun c5 => ?_) (fun c5 => ?_)
  · replace hf := hf.1 c5
    refine lv_aload_n hx hb dX12_without_17 rfl (lv_at hl 0 rfl) ?_
    obtain ⟨b6, hb6, hf⟩ := hf
    refine gm_getR (C := RX12) (T := TX12) (N := 68) (j := 34) hx hb hts inT_12 hown hK hW k3 (by decide) rfl (by decide) rfl (hts _ kw_1350) rfl dX12_without_18 hb6 ?_
    refine lv_iload_n hx hb dX12_without_21 rfl (lv_at hl 1 rfl) ?_
    obtain ⟨k7, hf⟩ := hf
    obtain ⟨h8, hf⟩ := hf
    refine gm_iald hx hb hK hW k7 h8 dX12_without_22 ?_
    refine lv_iconst (v := 2) hx hb dX12_without_23 (by decide +kernel) ?_
    refine lv_icmp_ne (tgt := 32) hx hb dX12_without_24 (by decide) (fun c9 => ?_) (fun c9 => ?_)
    · replace hf := hf.1 c9
      exact j32 _ _ _ _ (lv_sub hl [] rfl) hW hS hf
    · replace hf := hf.2 c9
      refine lv_aload_n hx hb dX12_without_27 rfl (lv_at hl 0 rfl) ?_
      refine lv_iload_n hx hb dX12_without_28 rfl (lv_at hl 1 rfl) ?_
      refine gm_cv (va_runV (As := [.int v1]) (rest := []) ⟨hx, hb, hml, hown, hts⟩ (m_X12_mixes l D cy tq _ Y _ _ _ _) (cwV 1 hts (good_V kw_1699 kw_1700 kw_1866 kw_12 kw_1701) rfl rfl rfl (by decide +kernel) ⟨Nat.le_of_ble_eq_true rfl, Nat.le_of_ble_eq_true rfl⟩) (gm_preV hK hW hC hS hA k3 (by decide) (q := (RX12, TX12, 68)) rfl rfl hf) rfl rfl hl.1 rfl (lv_room (Nat.le_of_ble_eq_true rfl)) dX12_without_29 ⟨Nat.le_of_ble_eq_true rfl, Nat.le_of_ble_eq_true rfl⟩) hW hS hA (fun M10 H locs hW hS hf => ?_)
      exact j32 _ _ _ _ (lv_sub hl [] rfl) hW hS hf
  · replace hf := hf.2 c5
    refine lv_aload_n hx hb dX12_without_9 rfl (lv_at hl 0 rfl) ?_
    refine lv_iload_n hx hb dX12_without_10 rfl (lv_at hl 1 rfl) ?_
    refine gm_cv (va_runV (As := [.int v1]) (rest := []) ⟨hx, hb, hml, hown, hts⟩ (m_X12_empties l D cy tq _ Y _ _ _ _) (cwV 1 hts (good_V kw_1708 kw_1709 kw_1869 kw_12 kw_1710) rfl rfl rfl (by decide +kernel) ⟨Nat.le_of_ble_eq_true rfl, Nat.le_of_ble_eq_true rfl⟩) (gm_preV hK hW hC hS hA k3 (by decide) (q := (RX12, TX12, 68)) rfl rfl hf) rfl rfl hl.1 rfl (lv_room (Nat.le_of_ble_eq_true rfl)) dX12_without_11 ⟨Nat.le_of_ble_eq_true rfl, Nat.le_of_ble_eq_true rfl⟩) hW hS hA (fun M11 H locs hW hS hf => ?_)
    refine lv_goto (tgt := 32) hx hb dX12_without_14 (by decide) ?_
    exact j32 _ _ _ _ (lv_sub hl [] rfl) hW hS hf

abbrev rm_X12_join : Room := { frames := 7, cells := 0, slots := 0, locals := 201 }
def f_X12_join_119 (Y : Ly) (Kn : Int32 → Mm → Prop) (M27 : Mm) (y28 : Int32) : Prop :=
  Kn y28 M27
def f_X12_join_55 (Y : Ly) (v0 : Nat) (v1 : Int32) (v2 : Int32) (Kn : Int32 → Mm → Prop) (M17 : Mm) : Prop :=
  ∃ b18 : Nat, mR M17 v0 38 = some b18 ∧ (yK Y b18 = 103 ∧ (vp_in ((8 * v1) + v2) (yN Y b18) ∧ (bz 1 ∧ (∀ M22 : Mm, M22 = sI M17 b18 (m1 (mI M17 b18) ((8 * v1) + v2).toNatClampNeg 1) → (∃ b23 : Nat, mR M22 v0 39 = some b23 ∧ (yK Y b23 = 101 ∧ (vp_in ((8 * v1) + v2) (yN Y b23) ∧ (∀ M26 : Mm, M26 = sI M22 b23 (m1 (mI M22 b23) ((8 * v1) + v2).toNatClampNeg (mI M22 v0 4)) → (f_X12_mayBeDone Y v0 v1 M26 (fun M27 => (((mI M27 v0 5) = 0 → (∃ b30 : Nat, mR M27 v0 34 = some b30 ∧ (yK Y b30 = 101 ∧ (vp_in v1 (yN Y b30) ∧ ((¬ (mI M27 b30 v1.toNatClampNeg) = 2 → (f_X12_join_119 Y Kn M27 (-1))) ∧ ((mI M27 b30 v1.toNatClampNeg) = 2 → (∃ b34 : Nat, mR M27 v0 35 = some b34 ∧ (yK Y b34 = 101 ∧ (vp_in v1 (yN Y b34) ∧ (f_X12_join_119 Y Kn M27 (mI M27 b34 v1.toNatClampNeg))))))))))) ∧ (¬ ((mI M27 v0 5) = 0) → (f_X12_join_119 Y Kn M27 (-3))))))))))))))
def f_X12_join_20 (Y : Ly) (v0 : Nat) (v1 : Int32) (v2 : Int32) (Kn : Int32 → Mm → Prop) (y3 : Int32) (M4 : Mm) : Prop :=
  yK Y v0 = 12 ∧ (f_X12_goes Y v0 y3 M4 (fun r6 M5 => ((¬ r6 = 0 → (∃ b9 : Nat, mR M5 v0 37 = some b9 ∧ (yK Y b9 = 103 ∧ (vp_in ((8 * v1) + v2) (yN Y b9) ∧ (bz 1 ∧ (∀ M13 : Mm, M13 = sI M5 b9 (m1 (mI M5 b9) ((8 * v1) + v2).toNatClampNeg 1) → (∃ b14 : Nat, mR M13 v0 34 = some b14 ∧ (yK Y b14 = 101 ∧ (vp_in v1 (yN Y b14) ∧ (((mI M13 b14 v1.toNatClampNeg) = 1 → (f_X12_join_55 Y v0 v1 v2 Kn M13)) ∧ (¬ ((mI M13 b14 v1.toNatClampNeg) = 1) → (f_X12_mixes Y v0 v1 M13 (fun M38 => (f_X12_join_55 Y v0 v1 v2 Kn M38)))))))))))))) ∧ (r6 = 0 → (Kn 0 M5)))))
def f_X12_join_19 (Y : Ly) (v0 : Nat) (v1 : Int32) (v2 : Int32) (Kn : Int32 → Mm → Prop) (M39 : Mm) : Prop :=
  f_X12_join_20 Y v0 v1 v2 Kn 0 M39
def f_X12_join (Y : Ly) (v0 : Nat) (v1 : Int32) (v2 : Int32) (M : Mm) (Kn : Int32 → Mm → Prop) : Prop :=
  f_X12_isOne Y v1 M (fun r2 M1 => ((r2 = 0 → (f_X12_join_19 Y v0 v1 v2 Kn M1)) ∧ (¬ (r2 = 0) → (f_X12_isOne Y v2 M1 (fun r42 M41 => ((r42 = 0 → (f_X12_join_19 Y v0 v1 v2 Kn M41)) ∧ (¬ (r42 = 0) → (f_X12_join_20 Y v0 v1 v2 Kn 1 M41))))))))
set_option maxHeartbeats 4000000 in
set_option maxRecDepth 100000 in
theorem m_X12_join (l : Launch) (D : va_G) (cy : Cy) (tq sz : Nat) (Y : Ly) (v0 : Nat) (v1 : Int32) (v2 : Int32) (M : Mm) (Kn : Int32 → Mm → Prop) : Met l yX12_join (Cond.code yX12_join cX12_join 3 (some .int) :: TT) rm_X12_join (PcG D cy tq [.ref v0, .int v1, .int v2] sz Y M (f_X12_join Y v0 v1 v2 M Kn)) (va_Qi Kn (BG D cy (Am Y sz) Y) (Am Y sz)) 0 0 (Am Y sz) := by
  refine Met.ofW (cc := cX12_join) (maxL := 3) (ret := (some .int)) (by decide) rfl ?_
  intro p e s m args below meth c s₁ B hml hv
  obtain ⟨hargs, hsz, hW, hK, hC, hf⟩ := hv
  subst hsz
  have hx := B.exec
  have hb := B.bytes
  have hr := B.returns
  have hts : ∀ w ∈ TT, w.before args s = true := fun w h => atoms_spec (ws := Cond.code yX12_join cX12_join 3 (some .int) :: TT) B.pre w (List.mem_cons_of_mem _ h)
  have hown : s.vm.findClass RX12 = some m.cls := findClass_of_methodNamed B.named
  have hlocks := B.notSynchronized
  replace hW := Wd_self (sz := s.heap.size) hW
  generalize hAe : Am Y s.heap.size = A at hW hC ⊢
  have hA : ∀ q : Nat, s.heap.size ≤ q → A q := fun q h => by rw [← hAe]; exact Or.inr h
  clear hAe
  have hS : va_S A s.heap s.heap [] := va_S.rf
  obtain ⟨ls, hE, hl⟩ := gm_entry m [.ref v0, .int v1, .int v2] (n := 3) hargs (Nat.le_of_ble_eq_true rfl)
  rw [hE]
  have hl : lv_has ls 3 [(0, .ref v0), (1, .int v1), (2, .int v2)] := hl
  show W p l e rm_X12_join s m args below meth c s.heap [] 0 0 (MQ below (va_Qi Kn (BG D cy A Y) A) args s 0 0 A) (F0 m 0 ls [])
  unfold f_X12_join at hf
  refine lv_aload_n hx hb dX12_join_0 rfl (lv_at hl 0 rfl) ?_
  refine lv_iload_n hx hb dX12_join_1 rfl (lv_at hl 1 rfl) ?_
  refine gm_ci (va_runS (As := [.int v1]) (rest := [.ref v0]) ⟨hx, hb, hml, hown, hts⟩ (m_X12_isOne l D cy tq _ Y _ _ _) (va_cwS 1 hts (good_S kw_1696 kw_1697 kw_12 kw_1698) rfl rfl rfl (by decide +kernel) ⟨Nat.le_of_ble_eq_true rfl, Nat.le_of_ble_eq_true rfl⟩) (gm_preS hK hW hC hS hA hf) rfl rfl hl.1 rfl (lv_room (Nat.le_of_ble_eq_true rfl)) dX12_join_2 ⟨Nat.le_of_ble_eq_true rfl, Nat.le_of_ble_eq_true rfl⟩) hW hS hA (fun r2 M1 H locs hW hS hf => ?_)
  have j20 : ∀ (y3 : Int32) (M4 : Mm) (H : Heap) (locs : List Loc) (ls : Array Slot), lv_has ls 3 [(0, .ref v0), (1, .int v1), (2, .int v2)] → Wd D cy A Y M4 H → va_S A s.heap H locs → f_X12_join_20 Y v0 v1 v2 Kn y3 M4 → W p l e rm_X12_join s m args below meth c H locs 0 0 (MQ below (va_Qi Kn (BG D cy A Y) A) args s 0 0 A) (F0 m 20 ls [.int y3, .ref v0]) := by
    intro y3 M4 H locs ls hl hW hS hf
    unfold f_X12_join_20 at hf
    obtain ⟨k7, hf⟩ := hf
    refine gm_ci (va_runV (As := [.int y3]) (rest := []) ⟨hx, hb, hml, hown, hts⟩ (m_X12_goes l D cy tq _ Y _ _ _ _) (cwV 1 hts (good_V kw_1564 kw_1565 kw_1838 kw_12 kw_1566) rfl rfl rfl (by decide +kernel) ⟨Nat.le_of_ble_eq_true rfl, Nat.le_of_ble_eq_true rfl⟩) (gm_preV hK hW hC hS hA k7 (by decide) (q := (RX12, TX12, 68)) rfl rfl hf) rfl rfl hl.1 rfl (lv_room (Nat.le_of_ble_eq_true rfl)) dX12_join_20 ⟨Nat.le_of_ble_eq_true rfl, Nat.le_of_ble_eq_true rfl⟩) hW hS hA (fun r6 M5 H locs hW hS hf => ?_)
    refine lv_if_ne (tgt := 28) hx hb dX12_join_23 (by decide) (fun c8 => ?_) (fun c8 => ?_)
    · replace hf := hf.1 c8
      refine lv_aload_n hx hb dX12_join_28 rfl (lv_at hl 0 rfl) ?_
      obtain ⟨b9, hb9, hf⟩ := hf
      refine gm_getR (C := RX12) (T := TX12) (N := 68) (j := 37) hx hb hts inT_12 hown hK hW k7 (by decide) rfl (by decide) rfl (hts _ kw_1353) rfl dX12_join_29 hb9 ?_
      refine lv_bipush (v := 8) hx hb dX12_join_32 (by decide +kernel) ?_
      refine lv_iload_n hx hb dX12_join_34 rfl (lv_at hl 1 rfl) ?_
      refine lv_imul hx hb dX12_join_35 ?_
      refine lv_iload_n hx hb dX12_join_36 rfl (lv_at hl 2 rfl) ?_
      refine lv_iadd hx hb dX12_join_37 ?_
      refine lv_iconst (v := 1) hx hb dX12_join_38 (by decide +kernel) ?_
      obtain ⟨k10, hf⟩ := hf
      obtain ⟨h11, hf⟩ := hf
      obtain ⟨z12, hf⟩ := hf
      refine gm_zast hx hb hK hW hS k10 h11 (bz_v z12) dX12_join_39 (fun H locs M13 eM13 hW hS => ?_)
      replace hf := hf M13 eM13
      refine lv_aload_n hx hb dX12_join_40 rfl (lv_at hl 0 rfl) ?_
      obtain ⟨b14, hb14, hf⟩ := hf
      refine gm_getR (C := RX12) (T := TX12) (N := 68) (j := 34) hx hb hts inT_12 hown hK hW k7 (by decide) rfl (by decide) rfl (hts _ kw_1350) rfl dX12_join_41 hb14 ?_
      refine lv_iload_n hx hb dX12_join_44 rfl (lv_at hl 1 rfl) ?_
      obtain ⟨k15, hf⟩ := hf
      obtain ⟨h16, hf⟩ := hf
      refine gm_iald hx hb hK hW k15 h16 dX12_join_45 ?_
      refine lv_iconst (v := 1) hx hb dX12_join_46 (by decide +kernel) ?_
      have j55 : ∀ (M17 : Mm) (H : Heap) (locs : List Loc) (ls : Array Slot), lv_has ls 3 [(0, .ref v0), (1, .int v1), (2, .int v2)] → Wd D cy A Y M17 H → va_S A s.heap H locs → f_X12_join_55 Y v0 v1 v2 Kn M17 → W p l e rm_X12_join s m args below meth c H locs 0 0 (MQ below (va_Qi Kn (BG D cy A Y) A) args s 0 0 A) (F0 m 55 ls []) := by
        intro M17 H locs ls hl hW hS hf
        unfold f_X12_join_55 at hf
        refine lv_aload_n hx hb dX12_join_55 rfl (lv_at hl 0 rfl) ?_
        obtain ⟨b18, hb18, hf⟩ := hf
        refine gm_getR (C := RX12) (T := TX12) (N := 68) (j := 38) hx hb hts inT_12 hown hK hW k7 (by decide) rfl (by decide) rfl (hts _ kw_1354) rfl dX12_join_56 hb18 ?_
        refine lv_bipush (v := 8) hx hb dX12_join_59 (by decide +kernel) ?_
        refine lv_iload_n hx hb dX12_join_61 rfl (lv_at hl 1 rfl) ?_
        refine lv_imul hx hb dX12_join_62 ?_
        refine lv_iload_n hx hb dX12_join_63 rfl (lv_at hl 2 rfl) ?_
        refine lv_iadd hx hb dX12_join_64 ?_
        refine lv_iconst (v := 1) hx hb dX12_join_65 (by decide +kernel) ?_
        obtain ⟨k19, hf⟩ := hf
        obtain ⟨h20, hf⟩ := hf
        obtain ⟨z21, hf⟩ := hf
        refine gm_zast hx hb hK hW hS k19 h20 (bz_v z21) dX12_join_66 (fun H locs M22 eM22 hW hS => ?_)
        replace hf := hf M22 eM22
        refine lv_aload_n hx hb dX12_join_67 rfl (lv_at hl 0 rfl) ?_
        obtain ⟨b23, hb23, hf⟩ := hf
        refine gm_getR (C := RX12) (T := TX12) (N := 68) (j := 39) hx hb hts inT_12 hown hK hW k7 (by decide) rfl (by decide) rfl (hts _ kw_1355) rfl dX12_join_68 hb23 ?_
        refine lv_bipush (v := 8) hx hb dX12_join_71 (by decide +kernel) ?_
        refine lv_iload_n hx hb dX12_join_73 rfl (lv_at hl 1 rfl) ?_
        refine lv_imul hx hb dX12_join_74 ?_
        refine lv_iload_n hx hb dX12_join_75 rfl (lv_at hl 2 rfl) ?_
        refine lv_iadd hx hb dX12_join_76 ?_
        refine lv_aload_n hx hb dX12_join_77 rfl (lv_at hl 0 rfl) ?_
        refine gm_getI (C := RX12) (T := TX12) (N := 68) (j := 4) hx hb hts inT_12 hown hK hW k7 (by decide) rfl (by decide) rfl (hts _ kw_1320) rfl dX12_join_78 ?_
        obtain ⟨k24, hf⟩ := hf
        obtain ⟨h25, hf⟩ := hf
        refine gm_iast hx hb hK hW hS k24 h25 dX12_join_81 (fun H locs M26 eM26 hW hS => ?_)
        replace hf := hf M26 eM26
        refine lv_aload_n hx hb dX12_join_82 rfl (lv_at hl 0 rfl) ?_
        refine lv_iload_n hx hb dX12_join_83 rfl (lv_at hl 1 rfl) ?_
        refine gm_cv (va_runV (As := [.int v1]) (rest := []) ⟨hx, hb, hml, hown, hts⟩ (m_X12_mayBeDone l D cy tq _ Y _ _ _ _) (cwV 1 hts (good_V kw_1702 kw_1703 kw_1867 kw_12 kw_1704) rfl rfl rfl (by decide +kernel) ⟨Nat.le_of_ble_eq_true rfl, Nat.le_of_ble_eq_true rfl⟩) (gm_preV hK hW hC hS hA k7 (by decide) (q := (RX12, TX12, 68)) rfl rfl hf) rfl rfl hl.1 rfl (lv_room (Nat.le_of_ble_eq_true rfl)) dX12_join_84 ⟨Nat.le_of_ble_eq_true rfl, Nat.le_of_ble_eq_true rfl⟩) hW hS hA (fun M27 H locs hW hS hf => ?_)
        refine lv_aload_n hx hb dX12_join_87 rfl (lv_at hl 0 rfl) ?_
        refine gm_getI (C := RX12) (T := TX12) (N := 68) (j := 5) hx hb hts inT_12 hown hK hW k7 (by decide) rfl (by decide) rfl (hts _ kw_1321) rfl dX12_join_88 ?_
        have j119 : ∀ (y28 : Int32) (H : Heap) (locs : List Loc) (ls : Array Slot), lv_has ls 3 [] → Wd D cy A Y M27 H → va_S A s.heap H locs → f_X12_join_119 Y Kn M27 y28 → W p l e rm_X12_join s m args below meth c H locs 0 0 (MQ below (va_Qi Kn (BG D cy A Y) A) args s 0 0 A) (F0 m 119 ls [.int y28]) := by
          intro y28 H locs ls hl hW hS hf
          unfold f_X12_join_119 at hf
          exact gm_iret hx hb hr hlocks hW hS hf dX12_join_119
        refine lv_if_eq (tgt := 99) hx hb dX12_join_91 (by decide) (fun c29 => ?_) (fun c29 => ?_)
        · replace hf := hf.1 c29
          refine lv_aload_n hx hb dX12_join_99 rfl (lv_at hl 0 rfl) ?_
          obtain ⟨b30, hb30, hf⟩ := hf
          refine gm_getR (C := RX12) (T := TX12) (N := 68) (j := 34) hx hb hts inT_12 hown hK hW k7 (by decide) rfl (by decide) rfl (hts _ kw_1350) rfl dX12_join_100 hb30 ?_
          refine lv_iload_n hx hb dX12_join_103 rfl (lv_at hl 1 rfl) ?_
          obtain ⟨k31, hf⟩ := hf
          obtain ⟨h32, hf⟩ := hf
          refine gm_iald hx hb hK hW k31 h32 dX12_join_104 ?_
          refine lv_iconst (v := 2) hx hb dX12_join_105 (by decide +kernel) ?_
          refine lv_icmp_ne (tgt := 118) hx hb dX12_join_106 (by decide) (fun c33 => ?_) (fun c33 => ?_)
          · replace hf := hf.1 c33
            refine lv_iconst (v := -1) hx hb dX12_join_118 (by decide +kernel) ?_
            exact j119 _ _ _ _ (lv_sub hl [] rfl) hW hS hf
          · replace hf := hf.2 c33
            refine lv_aload_n hx hb dX12_join_109 rfl (lv_at hl 0 rfl) ?_
            obtain ⟨b34, hb34, hf⟩ := hf
            refine gm_getR (C := RX12) (T := TX12) (N := 68) (j := 35) hx hb hts inT_12 hown hK hW k7 (by decide) rfl (by decide) rfl (hts _ kw_1351) rfl dX12_join_110 hb34 ?_
            refine lv_iload_n hx hb dX12_join_113 rfl (lv_at hl 1 rfl) ?_
            obtain ⟨k35, hf⟩ := hf
            obtain ⟨h36, hf⟩ := hf
            refine gm_iald hx hb hK hW k35 h36 dX12_join_114 ?_
            refine lv_goto (tgt := 119) hx hb dX12_join_115 (by decide) ?_
            exact j119 _ _ _ _ (lv_sub hl [] rfl) hW hS hf
        · replace hf := hf.2 c29
          refine lv_bipush (v := -3) hx hb dX12_join_94 (by decide +kernel) ?_
          refine lv_goto (tgt := 119) hx hb dX12_join_96 (by decide) ?_
          exact j119 _ _ _ _ (lv_sub hl [] rfl) hW hS hf
      refine lv_icmp_eq (tgt := 55) hx hb dX12_join_47 (by decide) (fun c37 => ?_) (fun c37 => ?_)
      · replace hf := hf.1 c37
        exact j55 _ _ _ _ (lv_sub hl [0, 1, 2] rfl) hW hS hf
      · replace hf := hf.2 c37
        refine lv_aload_n hx hb dX12_join_50 rfl (lv_at hl 0 rfl) ?_
        refine lv_iload_n hx hb dX12_join_51 rfl (lv_at hl 1 rfl) ?_
        refine gm_cv (va_runV (As := [.int v1]) (rest := []) ⟨hx, hb, hml, hown, hts⟩ (m_X12_mixes l D cy tq _ Y _ _ _ _) (cwV 1 hts (good_V kw_1699 kw_1700 kw_1866 kw_12 kw_1701) rfl rfl rfl (by decide +kernel) ⟨Nat.le_of_ble_eq_true rfl, Nat.le_of_ble_eq_true rfl⟩) (gm_preV hK hW hC hS hA k7 (by decide) (q := (RX12, TX12, 68)) rfl rfl hf) rfl rfl hl.1 rfl (lv_room (Nat.le_of_ble_eq_true rfl)) dX12_join_52 ⟨Nat.le_of_ble_eq_true rfl, Nat.le_of_ble_eq_true rfl⟩) hW hS hA (fun M38 H locs hW hS hf => ?_)
        exact j55 _ _ _ _ (lv_sub hl [0, 1, 2] rfl) hW hS hf
    · replace hf := hf.2 c8
      refine lv_iconst (v := 0) hx hb dX12_join_26 (by decide +kernel) ?_
      exact gm_iret hx hb hr hlocks hW hS hf dX12_join_27
  have j19 : ∀ (M39 : Mm) (H : Heap) (locs : List Loc) (ls : Array Slot), lv_has ls 3 [(0, .ref v0), (1, .int v1), (2, .int v2)] → Wd D cy A Y M39 H → va_S A s.heap H locs → f_X12_join_19 Y v0 v1 v2 Kn M39 → W p l e rm_X12_join s m args below meth c H locs 0 0 (MQ below (va_Qi Kn (BG D cy A Y) A) args s 0 0 A) (F0 m 19 ls [.ref v0]) := by
    intro M39 H locs ls hl hW hS hf
    unfold f_X12_join_19 at hf
    refine lv_iconst (v := 0) hx hb dX12_join_19 (by decide +kernel) ?_
    exact j20 _ _ _ _ _ (lv_sub hl [0, 1, 2] rfl) hW hS hf
  refine lv_if_eq (tgt := 19) hx hb dX12_join_5 (by decide) (fun c40 => ?_) (fun c40 => ?_)
  · replace hf := hf.1 c40
    exact j19 _ _ _ _ (lv_sub hl [0, 1, 2] rfl) hW hS hf
  · replace hf := hf.2 c40
    refine lv_iload_n hx hb dX12_join_8 rfl (lv_at hl 2 rfl) ?_
    refine gm_ci (va_runS (As := [.int v2]) (rest := [.ref v0]) ⟨hx, hb, hml, hown, hts⟩ (m_X12_isOne l D cy tq _ Y _ _ _) (va_cwS 1 hts (good_S kw_1696 kw_1697 kw_12 kw_1698) rfl rfl rfl (by decide +kernel) ⟨Nat.le_of_ble_eq_true rfl, Nat.le_of_ble_eq_true rfl⟩) (gm_preS hK hW hC hS hA hf) rfl rfl hl.1 rfl (lv_room (Nat.le_of_ble_eq_true rfl)) dX12_join_9 ⟨Nat.le_of_ble_eq_true rfl, Nat.le_of_ble_eq_true rfl⟩) hW hS hA (fun r42 M41 H locs hW hS hf => ?_)
    refine lv_if_eq (tgt := 19) hx hb dX12_join_12 (by decide) (fun c43 => ?_) (fun c43 => ?_)
    · replace hf := hf.1 c43
      exact j19 _ _ _ _ (lv_sub hl [0, 1, 2] rfl) hW hS hf
    · replace hf := hf.2 c43
      refine lv_iconst (v := 1) hx hb dX12_join_15 (by decide +kernel) ?_
      refine lv_goto (tgt := 20) hx hb dX12_join_16 (by decide) ?_
      exact j20 _ _ _ _ _ (lv_sub hl [0, 1, 2] rfl) hW hS hf

abbrev rm_X12_leave : Room := { frames := 7, cells := 0, slots := 0, locals := 201 }
def f_X12_leave_92 (Y : Ly) (Kn : Int32 → Mm → Prop) (M24 : Mm) (y25 : Int32) : Prop :=
  Kn y25 M24
def f_X12_leave_20 (Y : Ly) (v0 : Nat) (v1 : Int32) (v2 : Int32) (Kn : Int32 → Mm → Prop) (y3 : Int32) (M4 : Mm) : Prop :=
  yK Y v0 = 12 ∧ (f_X12_goes Y v0 y3 M4 (fun r6 M5 => ((¬ r6 = 0 → (∃ b9 : Nat, mR M5 v0 37 = some b9 ∧ (yK Y b9 = 103 ∧ (vp_in ((8 * v1) + v2) (yN Y b9) ∧ ((¬ (mI M5 b9 ((8 * v1) + v2).toNatClampNeg) = 0 → (∃ b13 : Nat, mR M5 v0 37 = some b13 ∧ (yK Y b13 = 103 ∧ (vp_in ((8 * v1) + v2) (yN Y b13) ∧ (bz 0 ∧ (∀ M17 : Mm, M17 = sI M5 b13 (m1 (mI M5 b13) ((8 * v1) + v2).toNatClampNeg 0) → (∃ b18 : Nat, mR M17 v0 38 = some b18 ∧ (yK Y b18 = 103 ∧ (vp_in ((8 * v1) + v2) (yN Y b18) ∧ (bz 0 ∧ (∀ M22 : Mm, M22 = sI M17 b18 (m1 (mI M17 b18) ((8 * v1) + v2).toNatClampNeg 0) → (f_X12_without Y v0 v1 M22 (fun M23 => (f_X12_mayBeDone Y v0 v1 M23 (fun M24 => (((mI M24 v0 5) = 0 → (f_X12_leave_92 Y Kn M24 1)) ∧ (¬ ((mI M24 v0 5) = 0) → (f_X12_leave_92 Y Kn M24 (-3))))))))))))))))))) ∧ ((mI M5 b9 ((8 * v1) + v2).toNatClampNeg) = 0 → (Kn (-8) M5))))))) ∧ (r6 = 0 → (Kn 0 M5)))))
def f_X12_leave_19 (Y : Ly) (v0 : Nat) (v1 : Int32) (v2 : Int32) (Kn : Int32 → Mm → Prop) (M27 : Mm) : Prop :=
  f_X12_leave_20 Y v0 v1 v2 Kn 0 M27
def f_X12_leave (Y : Ly) (v0 : Nat) (v1 : Int32) (v2 : Int32) (M : Mm) (Kn : Int32 → Mm → Prop) : Prop :=
  f_X12_isOne Y v1 M (fun r2 M1 => ((r2 = 0 → (f_X12_leave_19 Y v0 v1 v2 Kn M1)) ∧ (¬ (r2 = 0) → (f_X12_isOne Y v2 M1 (fun r30 M29 => ((r30 = 0 → (f_X12_leave_19 Y v0 v1 v2 Kn M29)) ∧ (¬ (r30 = 0) → (f_X12_leave_20 Y v0 v1 v2 Kn 1 M29))))))))
set_option maxHeartbeats 4000000 in
set_option maxRecDepth 100000 in
theorem m_X12_leave (l : Launch) (D : va_G) (cy : Cy) (tq sz : Nat) (Y : Ly) (v0 : Nat) (v1 : Int32) (v2 : Int32) (M : Mm) (Kn : Int32 → Mm → Prop) : Met l yX12_leave (Cond.code yX12_leave cX12_leave 3 (some .int) :: TT) rm_X12_leave (PcG D cy tq [.ref v0, .int v1, .int v2] sz Y M (f_X12_leave Y v0 v1 v2 M Kn)) (va_Qi Kn (BG D cy (Am Y sz) Y) (Am Y sz)) 0 0 (Am Y sz) := by
  refine Met.ofW (cc := cX12_leave) (maxL := 3) (ret := (some .int)) (by decide) rfl ?_
  intro p e s m args below meth c s₁ B hml hv
  obtain ⟨hargs, hsz, hW, hK, hC, hf⟩ := hv
  subst hsz
  have hx := B.exec
  have hb := B.bytes
  have hr := B.returns
  have hts : ∀ w ∈ TT, w.before args s = true := fun w h => atoms_spec (ws := Cond.code yX12_leave cX12_leave 3 (some .int) :: TT) B.pre w (List.mem_cons_of_mem _ h)
  have hown : s.vm.findClass RX12 = some m.cls := findClass_of_methodNamed B.named
  have hlocks := B.notSynchronized
  replace hW := Wd_self (sz := s.heap.size) hW
  generalize hAe : Am Y s.heap.size = A at hW hC ⊢
  have hA : ∀ q : Nat, s.heap.size ≤ q → A q := fun q h => by rw [← hAe]; exact Or.inr h
  clear hAe
  have hS : va_S A s.heap s.heap [] := va_S.rf
  obtain ⟨ls, hE, hl⟩ := gm_entry m [.ref v0, .int v1, .int v2] (n := 3) hargs (Nat.le_of_ble_eq_true rfl)
  rw [hE]
  have hl : lv_has ls 3 [(0, .ref v0), (1, .int v1), (2, .int v2)] := hl
  show W p l e rm_X12_leave s m args below meth c s.heap [] 0 0 (MQ below (va_Qi Kn (BG D cy A Y) A) args s 0 0 A) (F0 m 0 ls [])
  unfold f_X12_leave at hf
  refine lv_aload_n hx hb dX12_leave_0 rfl (lv_at hl 0 rfl) ?_
  refine lv_iload_n hx hb dX12_leave_1 rfl (lv_at hl 1 rfl) ?_
  refine gm_ci (va_runS (As := [.int v1]) (rest := [.ref v0]) ⟨hx, hb, hml, hown, hts⟩ (m_X12_isOne l D cy tq _ Y _ _ _) (va_cwS 1 hts (good_S kw_1696 kw_1697 kw_12 kw_1698) rfl rfl rfl (by decide +kernel) ⟨Nat.le_of_ble_eq_true rfl, Nat.le_of_ble_eq_true rfl⟩) (gm_preS hK hW hC hS hA hf) rfl rfl hl.1 rfl (lv_room (Nat.le_of_ble_eq_true rfl)) dX12_leave_2 ⟨Nat.le_of_ble_eq_true rfl, Nat.le_of_ble_eq_true rfl⟩) hW hS hA (fun r2 M1 H locs hW hS hf => ?_)
  have j20 : ∀ (y3 : Int32) (M4 : Mm) (H : Heap) (locs : List Loc) (ls : Array Slot), lv_has ls 3 [(0, .ref v0), (1, .int v1), (2, .int v2)] → Wd D cy A Y M4 H → va_S A s.heap H locs → f_X12_leave_20 Y v0 v1 v2 Kn y3 M4 → W p l e rm_X12_leave s m args below meth c H locs 0 0 (MQ below (va_Qi Kn (BG D cy A Y) A) args s 0 0 A) (F0 m 20 ls [.int y3, .ref v0]) := by
    intro y3 M4 H locs ls hl hW hS hf
    unfold f_X12_leave_20 at hf
    obtain ⟨k7, hf⟩ := hf
    refine gm_ci (va_runV (As := [.int y3]) (rest := []) ⟨hx, hb, hml, hown, hts⟩ (m_X12_goes l D cy tq _ Y _ _ _ _) (cwV 1 hts (good_V kw_1564 kw_1565 kw_1838 kw_12 kw_1566) rfl rfl rfl (by decide +kernel) ⟨Nat.le_of_ble_eq_true rfl, Nat.le_of_ble_eq_true rfl⟩) (gm_preV hK hW hC hS hA k7 (by decide) (q := (RX12, TX12, 68)) rfl rfl hf) rfl rfl hl.1 rfl (lv_room (Nat.le_of_ble_eq_true rfl)) dX12_leave_20 ⟨Nat.le_of_ble_eq_true rfl, Nat.le_of_ble_eq_true rfl⟩) hW hS hA (fun r6 M5 H locs hW hS hf => ?_)
    refine lv_if_ne (tgt := 28) hx hb dX12_leave_23 (by decide) (fun c8 => ?_) (fun c8 => ?_)
    · replace hf := hf.1 c8
      refine lv_aload_n hx hb dX12_leave_28 rfl (lv_at hl 0 rfl) ?_
      obtain ⟨b9, hb9, hf⟩ := hf
      refine gm_getR (C := RX12) (T := TX12) (N := 68) (j := 37) hx hb hts inT_12 hown hK hW k7 (by decide) rfl (by decide) rfl (hts _ kw_1353) rfl dX12_leave_29 hb9 ?_
      refine lv_bipush (v := 8) hx hb dX12_leave_32 (by decide +kernel) ?_
      refine lv_iload_n hx hb dX12_leave_34 rfl (lv_at hl 1 rfl) ?_
      refine lv_imul hx hb dX12_leave_35 ?_
      refine lv_iload_n hx hb dX12_leave_36 rfl (lv_at hl 2 rfl) ?_
      refine lv_iadd hx hb dX12_leave_37 ?_
      obtain ⟨k10, hf⟩ := hf
      obtain ⟨h11, hf⟩ := hf
      refine gm_zald hx hb hK hW k10 h11 dX12_leave_38 ?_
      refine lv_if_ne (tgt := 45) hx hb dX12_leave_39 (by decide) (fun c12 => ?_) (fun c12 => ?_)
      · replace hf := hf.1 c12
        refine lv_aload_n hx hb dX12_leave_45 rfl (lv_at hl 0 rfl) ?_
        obtain ⟨b13, hb13, hf⟩ := hf
        refine gm_getR (C := RX12) (T := TX12) (N := 68) (j := 37) hx hb hts inT_12 hown hK hW k7 (by decide) rfl (by decide) rfl (hts _ kw_1353) rfl dX12_leave_46 hb13 ?_
        refine lv_bipush (v := 8) hx hb dX12_leave_49 (by decide +kernel) ?_
        refine lv_iload_n hx hb dX12_leave_51 rfl (lv_at hl 1 rfl) ?_
        refine lv_imul hx hb dX12_leave_52 ?_
        refine lv_iload_n hx hb dX12_leave_53 rfl (lv_at hl 2 rfl) ?_
        refine lv_iadd hx hb dX12_leave_54 ?_
        refine lv_iconst (v := 0) hx hb dX12_leave_55 (by decide +kernel) ?_
        obtain ⟨k14, hf⟩ := hf
        obtain ⟨h15, hf⟩ := hf
        obtain ⟨z16, hf⟩ := hf
        refine gm_zast hx hb hK hW hS k14 h15 (bz_v z16) dX12_leave_56 (fun H locs M17 eM17 hW hS => ?_)
        replace hf := hf M17 eM17
        refine lv_aload_n hx hb dX12_leave_57 rfl (lv_at hl 0 rfl) ?_
        obtain ⟨b18, hb18, hf⟩ := hf
        refine gm_getR (C := RX12) (T := TX12) (N := 68) (j := 38) hx hb hts inT_12 hown hK hW k7 (by decide) rfl (by decide) rfl (hts _ kw_1354) rfl dX12_leave_58 hb18 ?_
        refine lv_bipush (v := 8) hx hb dX12_leave_61 (by decide +kernel) ?_
        refine lv_iload_n hx hb dX12_leave_63 rfl (lv_at hl 1 rfl) ?_
        refine lv_imul hx hb dX12_leave_64 ?_
        refine lv_iload_n hx hb dX12_leave_65 rfl (lv_at hl 2 rfl) ?_
        refine lv_iadd hx hb dX12_leave_66 ?_
        refine lv_iconst (v := 0) hx hb dX12_leave_67 (by decide +kernel) ?_
        obtain ⟨k19, hf⟩ := hf
        obtain ⟨h20, hf⟩ := hf
        obtain ⟨z21, hf⟩ := hf
        refine gm_zast hx hb hK hW hS k19 h20 (bz_v z21) dX12_leave_68 (fun H locs M22 eM22 hW hS => ?_)
        replace hf := hf M22 eM22
        refine lv_aload_n hx hb dX12_leave_69 rfl (lv_at hl 0 rfl) ?_
        refine lv_iload_n hx hb dX12_leave_70 rfl (lv_at hl 1 rfl) ?_
        refine gm_cv (va_runV (As := [.int v1]) (rest := []) ⟨hx, hb, hml, hown, hts⟩ (m_X12_without l D cy tq _ Y _ _ _ _) (cwV 1 hts (good_V kw_1719 kw_1720 kw_1871 kw_12 kw_1721) rfl rfl rfl (by decide +kernel) ⟨Nat.le_of_ble_eq_true rfl, Nat.le_of_ble_eq_true rfl⟩) (gm_preV hK hW hC hS hA k7 (by decide) (q := (RX12, TX12, 68)) rfl rfl hf) rfl rfl hl.1 rfl (lv_room (Nat.le_of_ble_eq_true rfl)) dX12_leave_71 ⟨Nat.le_of_ble_eq_true rfl, Nat.le_of_ble_eq_true rfl⟩) hW hS hA (fun M23 H locs hW hS hf => ?_)
        refine lv_aload_n hx hb dX12_leave_74 rfl (lv_at hl 0 rfl) ?_
        refine lv_iload_n hx hb dX12_leave_75 rfl (lv_at hl 1 rfl) ?_
        refine gm_cv (va_runV (As := [.int v1]) (rest := []) ⟨hx, hb, hml, hown, hts⟩ (m_X12_mayBeDone l D cy tq _ Y _ _ _ _) (cwV 1 hts (good_V kw_1702 kw_1703 kw_1867 kw_12 kw_1704) rfl rfl rfl (by decide +kernel) ⟨Nat.le_of_ble_eq_true rfl, Nat.le_of_ble_eq_true rfl⟩) (gm_preV hK hW hC hS hA k7 (by decide) (q := (RX12, TX12, 68)) rfl rfl hf) rfl rfl hl.1 rfl (lv_room (Nat.le_of_ble_eq_true rfl)) dX12_leave_76 ⟨Nat.le_of_ble_eq_true rfl, Nat.le_of_ble_eq_true rfl⟩) hW hS hA (fun M24 H locs hW hS hf => ?_)
        refine lv_aload_n hx hb dX12_leave_79 rfl (lv_at hl 0 rfl) ?_
        refine gm_getI (C := RX12) (T := TX12) (N := 68) (j := 5) hx hb hts inT_12 hown hK hW k7 (by decide) rfl (by decide) rfl (hts _ kw_1321) rfl dX12_leave_80 ?_
        have j92 : ∀ (y25 : Int32) (H : Heap) (locs : List Loc) (ls : Array Slot), lv_has ls 3 [] → Wd D cy A Y M24 H → va_S A s.heap H locs → f_X12_leave_92 Y Kn M24 y25 → W p l e rm_X12_leave s m args below meth c H locs 0 0 (MQ below (va_Qi Kn (BG D cy A Y) A) args s 0 0 A) (F0 m 92 ls [.int y25]) := by
          intro y25 H locs ls hl hW hS hf
          unfold f_X12_leave_92 at hf
          exact gm_iret hx hb hr hlocks hW hS hf dX12_leave_92
        refine lv_if_eq (tgt := 91) hx hb dX12_leave_83 (by decide) (fun c26 => ?_) (fun c26 => ?_)
        · replace hf := hf.1 c26
          refine lv_iconst (v := 1) hx hb dX12_leave_91 (by decide +kernel) ?_
          exact j92 _ _ _ _ (lv_sub hl [] rfl) hW hS hf
        · replace hf := hf.2 c26
          refine lv_bipush (v := -3) hx hb dX12_leave_86 (by decide +kernel) ?_
          refine lv_goto (tgt := 92) hx hb dX12_leave_88 (by decide) ?_
          exact j92 _ _ _ _ (lv_sub hl [] rfl) hW hS hf
      · replace hf := hf.2 c12
        refine lv_bipush (v := -8) hx hb dX12_leave_42 (by decide +kernel) ?_
        exact gm_iret hx hb hr hlocks hW hS hf dX12_leave_44
    · replace hf := hf.2 c8
      refine lv_iconst (v := 0) hx hb dX12_leave_26 (by decide +kernel) ?_
      exact gm_iret hx hb hr hlocks hW hS hf dX12_leave_27
  have j19 : ∀ (M27 : Mm) (H : Heap) (locs : List Loc) (ls : Array Slot), lv_has ls 3 [(0, .ref v0), (1, .int v1), (2, .int v2)] → Wd D cy A Y M27 H → va_S A s.heap H locs → f_X12_leave_19 Y v0 v1 v2 Kn M27 → W p l e rm_X12_leave s m args below meth c H locs 0 0 (MQ below (va_Qi Kn (BG D cy A Y) A) args s 0 0 A) (F0 m 19 ls [.ref v0]) := by
    intro M27 H locs ls hl hW hS hf
    unfold f_X12_leave_19 at hf
    refine lv_iconst (v := 0) hx hb dX12_leave_19 (by decide +kernel) ?_
    exact j20 _ _ _ _ _ (lv_sub hl [0, 1, 2] rfl) hW hS hf
  refine lv_if_eq (tgt := 19) hx hb dX12_leave_5 (by decide) (fun c28 => ?_) (fun c28 => ?_)
  · replace hf := hf.1 c28
    exact j19 _ _ _ _ (lv_sub hl [0, 1, 2] rfl) hW hS hf
  · replace hf := hf.2 c28
    refine lv_iload_n hx hb dX12_leave_8 rfl (lv_at hl 2 rfl) ?_
    refine gm_ci (va_runS (As := [.int v2]) (rest := [.ref v0]) ⟨hx, hb, hml, hown, hts⟩ (m_X12_isOne l D cy tq _ Y _ _ _) (va_cwS 1 hts (good_S kw_1696 kw_1697 kw_12 kw_1698) rfl rfl rfl (by decide +kernel) ⟨Nat.le_of_ble_eq_true rfl, Nat.le_of_ble_eq_true rfl⟩) (gm_preS hK hW hC hS hA hf) rfl rfl hl.1 rfl (lv_room (Nat.le_of_ble_eq_true rfl)) dX12_leave_9 ⟨Nat.le_of_ble_eq_true rfl, Nat.le_of_ble_eq_true rfl⟩) hW hS hA (fun r30 M29 H locs hW hS hf => ?_)
    refine lv_if_eq (tgt := 19) hx hb dX12_leave_12 (by decide) (fun c31 => ?_) (fun c31 => ?_)
    · replace hf := hf.1 c31
      exact j19 _ _ _ _ (lv_sub hl [0, 1, 2] rfl) hW hS hf
    · replace hf := hf.2 c31
      refine lv_iconst (v := 1) hx hb dX12_leave_15 (by decide +kernel) ?_
      refine lv_goto (tgt := 20) hx hb dX12_leave_16 (by decide) ?_
      exact j20 _ _ _ _ _ (lv_sub hl [0, 1, 2] rfl) hW hS hf

abbrev rm_X12_beat : Room := { frames := 3, cells := 0, slots := 0, locals := 101 }
def f_X12_beat_73 (Y : Ly) (Kn : Int32 → Mm → Prop) (M5 : Mm) (y15 : Int32) : Prop :=
  Kn y15 M5
def f_X12_beat_52 (Y : Ly) (v0 : Nat) (v1 : Int32) (v2 : Int32) (Kn : Int32 → Mm → Prop) (M5 : Mm) : Prop :=
  ∃ b12 : Nat, mR M5 v0 37 = some b12 ∧ (yK Y b12 = 103 ∧ (vp_in ((8 * v1) + v2) (yN Y b12) ∧ (((mI M5 b12 ((8 * v1) + v2).toNatClampNeg) = 0 → (f_X12_beat_73 Y Kn M5 (-8))) ∧ (¬ ((mI M5 b12 ((8 * v1) + v2).toNatClampNeg) = 0) → (f_X12_beat_73 Y Kn M5 (-9))))))
def f_X12_beat_118 (Y : Ly) (Kn : Int32 → Mm → Prop) (M25 : Mm) (y29 : Int32) : Prop :=
  Kn y29 M25
def f_X12_beat_117 (Y : Ly) (Kn : Int32 → Mm → Prop) (M25 : Mm) : Prop :=
  f_X12_beat_118 Y Kn M25 0
def f_X12_beat_20 (Y : Ly) (v0 : Nat) (v1 : Int32) (v2 : Int32) (v3 : Int32) (Kn : Int32 → Mm → Prop) (y3 : Int32) (M4 : Mm) : Prop :=
  yK Y v0 = 12 ∧ (f_X12_goes Y v0 y3 M4 (fun r6 M5 => ((¬ r6 = 0 → (∃ b9 : Nat, mR M5 v0 37 = some b9 ∧ (yK Y b9 = 103 ∧ (vp_in ((8 * v1) + v2) (yN Y b9) ∧ (((mI M5 b9 ((8 * v1) + v2).toNatClampNeg) = 0 → (f_X12_beat_52 Y v0 v1 v2 Kn M5)) ∧ (¬ ((mI M5 b9 ((8 * v1) + v2).toNatClampNeg) = 0) → (∃ b18 : Nat, mR M5 v0 35 = some b18 ∧ (yK Y b18 = 101 ∧ (vp_in v1 (yN Y b18) ∧ ((v3 = (mI M5 b18 v1.toNatClampNeg) → (∃ b22 : Nat, mR M5 v0 39 = some b22 ∧ (yK Y b22 = 101 ∧ (vp_in ((8 * v1) + v2) (yN Y b22) ∧ (∀ M25 : Mm, M25 = sI M5 b22 (m1 (mI M5 b22) ((8 * v1) + v2).toNatClampNeg (mI M5 v0 4)) → (∃ b26 : Nat, mR M25 v0 34 = some b26 ∧ (yK Y b26 = 101 ∧ (vp_in v1 (yN Y b26) ∧ ((¬ (mI M25 b26 v1.toNatClampNeg) = 1 → (f_X12_beat_117 Y Kn M25)) ∧ ((mI M25 b26 v1.toNatClampNeg) = 1 → (∃ b31 : Nat, mR M25 v0 38 = some b31 ∧ (yK Y b31 = 103 ∧ (vp_in ((8 * v1) + v2) (yN Y b31) ∧ ((¬ (mI M25 b31 ((8 * v1) + v2).toNatClampNeg) = 0 → (f_X12_beat_117 Y Kn M25)) ∧ ((mI M25 b31 ((8 * v1) + v2).toNatClampNeg) = 0 → (f_X12_beat_118 Y Kn M25 1)))))))))))))))) ∧ (¬ (v3 = (mI M5 b18 v1.toNatClampNeg)) → (f_X12_beat_52 Y v0 v1 v2 Kn M5)))))))))))) ∧ (r6 = 0 → (Kn 0 M5)))))
def f_X12_beat_19 (Y : Ly) (v0 : Nat) (v1 : Int32) (v2 : Int32) (v3 : Int32) (Kn : Int32 → Mm → Prop) (M35 : Mm) : Prop :=
  f_X12_beat_20 Y v0 v1 v2 v3 Kn 0 M35
def f_X12_beat (Y : Ly) (v0 : Nat) (v1 : Int32) (v2 : Int32) (v3 : Int32) (M : Mm) (Kn : Int32 → Mm → Prop) : Prop :=
  f_X12_isOne Y v1 M (fun r2 M1 => ((r2 = 0 → (f_X12_beat_19 Y v0 v1 v2 v3 Kn M1)) ∧ (¬ (r2 = 0) → (f_X12_isOne Y v2 M1 (fun r38 M37 => ((r38 = 0 → (f_X12_beat_19 Y v0 v1 v2 v3 Kn M37)) ∧ (¬ (r38 = 0) → (f_X12_beat_20 Y v0 v1 v2 v3 Kn 1 M37))))))))
set_option maxHeartbeats 4000000 in
set_option maxRecDepth 100000 in
theorem m_X12_beat (l : Launch) (D : va_G) (cy : Cy) (tq sz : Nat) (Y : Ly) (v0 : Nat) (v1 : Int32) (v2 : Int32) (v3 : Int32) (M : Mm) (Kn : Int32 → Mm → Prop) : Met l yX12_beat (Cond.code yX12_beat cX12_beat 4 (some .int) :: TT) rm_X12_beat (PcG D cy tq [.ref v0, .int v1, .int v2, .int v3] sz Y M (f_X12_beat Y v0 v1 v2 v3 M Kn)) (va_Qi Kn (BG D cy (Am Y sz) Y) (Am Y sz)) 0 0 (Am Y sz) := by
  refine Met.ofW (cc := cX12_beat) (maxL := 4) (ret := (some .int)) (by decide) rfl ?_
  intro p e s m args below meth c s₁ B hml hv
  obtain ⟨hargs, hsz, hW, hK, hC, hf⟩ := hv
  subst hsz
  have hx := B.exec
  have hb := B.bytes
  have hr := B.returns
  have hts : ∀ w ∈ TT, w.before args s = true := fun w h => atoms_spec (ws := Cond.code yX12_beat cX12_beat 4 (some .int) :: TT) B.pre w (List.mem_cons_of_mem _ h)
  have hown : s.vm.findClass RX12 = some m.cls := findClass_of_methodNamed B.named
  have hlocks := B.notSynchronized
  replace hW := Wd_self (sz := s.heap.size) hW
  generalize hAe : Am Y s.heap.size = A at hW hC ⊢
  have hA : ∀ q : Nat, s.heap.size ≤ q → A q := fun q h => by rw [← hAe]; exact Or.inr h
  clear hAe
  have hS : va_S A s.heap s.heap [] := va_S.rf
  obtain ⟨ls, hE, hl⟩ := gm_entry m [.ref v0, .int v1, .int v2, .int v3] (n := 4) hargs (Nat.le_of_ble_eq_true rfl)
  rw [hE]
  have hl : lv_has ls 4 [(0, .ref v0), (1, .int v1), (2, .int v2), (3, .int v3)] := hl
  show W p l e rm_X12_beat s m args below meth c s.heap [] 0 0 (MQ below (va_Qi Kn (BG D cy A Y) A) args s 0 0 A) (F0 m 0 ls [])
  unfold f_X12_beat at hf
  refine lv_aload_n hx hb dX12_beat_0 rfl (lv_at hl 0 rfl) ?_
  refine lv_iload_n hx hb dX12_beat_1 rfl (lv_at hl 1 rfl) ?_
  refine gm_ci (va_runS (As := [.int v1]) (rest := [.ref v0]) ⟨hx, hb, hml, hown, hts⟩ (m_X12_isOne l D cy tq _ Y _ _ _) (va_cwS 1 hts (good_S kw_1696 kw_1697 kw_12 kw_1698) rfl rfl rfl (by decide +kernel) ⟨Nat.le_of_ble_eq_true rfl, Nat.le_of_ble_eq_true rfl⟩) (gm_preS hK hW hC hS hA hf) rfl rfl hl.1 rfl (lv_room (Nat.le_of_ble_eq_true rfl)) dX12_beat_2 ⟨Nat.le_of_ble_eq_true rfl, Nat.le_of_ble_eq_true rfl⟩) hW hS hA (fun r2 M1 H locs hW hS hf => ?_)
  have j20 : ∀ (y3 : Int32) (M4 : Mm) (H : Heap) (locs : List Loc) (ls : Array Slot), lv_has ls 4 [(0, .ref v0), (1, .int v1), (2, .int v2), (3, .int v3)] → Wd D cy A Y M4 H → va_S A s.heap H locs → f_X12_beat_20 Y v0 v1 v2 v3 Kn y3 M4 → W p l e rm_X12_beat s m args below meth c H locs 0 0 (MQ below (va_Qi Kn (BG D cy A Y) A) args s 0 0 A) (F0 m 20 ls [.int y3, .ref v0]) := by
    intro y3 M4 H locs ls hl hW hS hf
    unfold f_X12_beat_20 at hf
    obtain ⟨k7, hf⟩ := hf
    refine gm_ci (va_runV (As := [.int y3]) (rest := []) ⟨hx, hb, hml, hown, hts⟩ (m_X12_goes l D cy tq _ Y _ _ _ _) (cwV 1 hts (good_V kw_1564 kw_1565 kw_1838 kw_12 kw_1566) rfl rfl rfl (by decide +kernel) ⟨Nat.le_of_ble_eq_true rfl, Nat.le_of_ble_eq_true rfl⟩) (gm_preV hK hW hC hS hA k7 (by decide) (q := (RX12, TX12, 68)) rfl rfl hf) rfl rfl hl.1 rfl (lv_room (Nat.le_of_ble_eq_true rfl)) dX12_beat_20 ⟨Nat.le_of_ble_eq_true rfl, Nat.le_of_ble_eq_true rfl⟩) hW hS hA (fun r6 M5 H locs hW hS hf => ?_)
    refine lv_if_ne (tgt := 28) hx hb dX12_beat_23 (by decide) (fun c8 => ?_) (fun c8 => ?_)
    · replace hf := hf.1 c8
      refine lv_aload_n hx hb dX12_beat_28 rfl (lv_at hl 0 rfl) ?_
      obtain ⟨b9, hb9, hf⟩ := hf
      refine gm_getR (C := RX12) (T := TX12) (N := 68) (j := 37) hx hb hts inT_12 hown hK hW k7 (by decide) rfl (by decide) rfl (hts _ kw_1353) rfl dX12_beat_29 hb9 ?_
      refine lv_bipush (v := 8) hx hb dX12_beat_32 (by decide +kernel) ?_
      refine lv_iload_n hx hb dX12_beat_34 rfl (lv_at hl 1 rfl) ?_
      refine lv_imul hx hb dX12_beat_35 ?_
      refine lv_iload_n hx hb dX12_beat_36 rfl (lv_at hl 2 rfl) ?_
      refine lv_iadd hx hb dX12_beat_37 ?_
      obtain ⟨k10, hf⟩ := hf
      obtain ⟨h11, hf⟩ := hf
      refine gm_zald hx hb hK hW k10 h11 dX12_beat_38 ?_
      have j52 : ∀ (H : Heap) (locs : List Loc) (ls : Array Slot), lv_has ls 4 [(0, .ref v0), (1, .int v1), (2, .int v2)] → Wd D cy A Y M5 H → va_S A s.heap H locs → f_X12_beat_52 Y v0 v1 v2 Kn M5  → W p l e rm_X12_beat s m args below meth c H locs 0 0 (MQ below (va_Qi Kn (BG D cy A Y) A) args s 0 0 A) (F0 m 52 ls []) := by
        intro  H locs ls hl hW hS hf
        unfold f_X12_beat_52 at hf
        refine lv_aload_n hx hb dX12_beat_52 rfl (lv_at hl 0 rfl) ?_
        obtain ⟨b12, hb12, hf⟩ := hf
        refine gm_getR (C := RX12) (T := TX12) (N := 68) (j := 37) hx hb hts inT_12 hown hK hW k7 (by decide) rfl (by decide) rfl (hts _ kw_1353) rfl dX12_beat_53 hb12 ?_
        refine lv_bipush (v := 8) hx hb dX12_beat_56 (by decide +kernel) ?_
        refine lv_iload_n hx hb dX12_beat_58 rfl (lv_at hl 1 rfl) ?_
        refine lv_imul hx hb dX12_beat_59 ?_
        refine lv_iload_n hx hb dX12_beat_60 rfl (lv_at hl 2 rfl) ?_
        refine lv_iadd hx hb dX12_beat_61 ?_
        obtain ⟨k13, hf⟩ := hf
        obtain ⟨h14, hf⟩ := hf
        refine gm_zald hx hb hK hW k13 h14 dX12_beat_62 ?_
        have j73 : ∀ (y15 : Int32) (H : Heap) (locs : List Loc) (ls : Array Slot), lv_has ls 4 [] → Wd D cy A Y M5 H → va_S A s.heap H locs → f_X12_beat_73 Y Kn M5 y15 → W p l e rm_X12_beat s m args below meth c H locs 0 0 (MQ below (va_Qi Kn (BG D cy A Y) A) args s 0 0 A) (F0 m 73 ls [.int y15]) := by
          intro y15 H locs ls hl hW hS hf
          unfold f_X12_beat_73 at hf
          exact gm_iret hx hb hr hlocks hW hS hf dX12_beat_73
        refine lv_if_eq (tgt := 71) hx hb dX12_beat_63 (by decide) (fun c16 => ?_) (fun c16 => ?_)
        · replace hf := hf.1 c16
          refine lv_bipush (v := -8) hx hb dX12_beat_71 (by decide +kernel) ?_
          exact j73 _ _ _ _ (lv_sub hl [] rfl) hW hS hf
        · replace hf := hf.2 c16
          refine lv_bipush (v := -9) hx hb dX12_beat_66 (by decide +kernel) ?_
          refine lv_goto (tgt := 73) hx hb dX12_beat_68 (by decide) ?_
          exact j73 _ _ _ _ (lv_sub hl [] rfl) hW hS hf
      refine lv_if_eq (tgt := 52) hx hb dX12_beat_39 (by decide) (fun c17 => ?_) (fun c17 => ?_)
      · replace hf := hf.1 c17
        exact j52  _ _ _ (lv_sub hl [0, 1, 2] rfl) hW hS hf
      · replace hf := hf.2 c17
        refine lv_iload_n hx hb dX12_beat_42 rfl (lv_at hl 3 rfl) ?_
        refine lv_aload_n hx hb dX12_beat_43 rfl (lv_at hl 0 rfl) ?_
        obtain ⟨b18, hb18, hf⟩ := hf
        refine gm_getR (C := RX12) (T := TX12) (N := 68) (j := 35) hx hb hts inT_12 hown hK hW k7 (by decide) rfl (by decide) rfl (hts _ kw_1351) rfl dX12_beat_44 hb18 ?_
        refine lv_iload_n hx hb dX12_beat_47 rfl (lv_at hl 1 rfl) ?_
        obtain ⟨k19, hf⟩ := hf
        obtain ⟨h20, hf⟩ := hf
        refine gm_iald hx hb hK hW k19 h20 dX12_beat_48 ?_
        refine lv_icmp_eq (tgt := 74) hx hb dX12_beat_49 (by decide) (fun c21 => ?_) (fun c21 => ?_)
        · replace hf := hf.1 c21
          refine lv_aload_n hx hb dX12_beat_74 rfl (lv_at hl 0 rfl) ?_
          obtain ⟨b22, hb22, hf⟩ := hf
          refine gm_getR (C := RX12) (T := TX12) (N := 68) (j := 39) hx hb hts inT_12 hown hK hW k7 (by decide) rfl (by decide) rfl (hts _ kw_1355) rfl dX12_beat_75 hb22 ?_
          refine lv_bipush (v := 8) hx hb dX12_beat_78 (by decide +kernel) ?_
          refine lv_iload_n hx hb dX12_beat_80 rfl (lv_at hl 1 rfl) ?_
          refine lv_imul hx hb dX12_beat_81 ?_
          refine lv_iload_n hx hb dX12_beat_82 rfl (lv_at hl 2 rfl) ?_
          refine lv_iadd hx hb dX12_beat_83 ?_
          refine lv_aload_n hx hb dX12_beat_84 rfl (lv_at hl 0 rfl) ?_
          refine gm_getI (C := RX12) (T := TX12) (N := 68) (j := 4) hx hb hts inT_12 hown hK hW k7 (by decide) rfl (by decide) rfl (hts _ kw_1320) rfl dX12_beat_85 ?_
          obtain ⟨k23, hf⟩ := hf
          obtain ⟨h24, hf⟩ := hf
          refine gm_iast hx hb hK hW hS k23 h24 dX12_beat_88 (fun H locs M25 eM25 hW hS => ?_)
          replace hf := hf M25 eM25
          refine lv_aload_n hx hb dX12_beat_89 rfl (lv_at hl 0 rfl) ?_
          obtain ⟨b26, hb26, hf⟩ := hf
          refine gm_getR (C := RX12) (T := TX12) (N := 68) (j := 34) hx hb hts inT_12 hown hK hW k7 (by decide) rfl (by decide) rfl (hts _ kw_1350) rfl dX12_beat_90 hb26 ?_
          refine lv_iload_n hx hb dX12_beat_93 rfl (lv_at hl 1 rfl) ?_
          obtain ⟨k27, hf⟩ := hf
          obtain ⟨h28, hf⟩ := hf
          refine gm_iald hx hb hK hW k27 h28 dX12_beat_94 ?_
          refine lv_iconst (v := 1) hx hb dX12_beat_95 (by decide +kernel) ?_
          have j118 : ∀ (y29 : Int32) (H : Heap) (locs : List Loc) (ls : Array Slot), lv_has ls 4 [] → Wd D cy A Y M25 H → va_S A s.heap H locs → f_X12_beat_118 Y Kn M25 y29 → W p l e rm_X12_beat s m args below meth c H locs 0 0 (MQ below (va_Qi Kn (BG D cy A Y) A) args s 0 0 A) (F0 m 118 ls [.int y29]) := by
            intro y29 H locs ls hl hW hS hf
            unfold f_X12_beat_118 at hf
            exact gm_iret hx hb hr hlocks hW hS hf dX12_beat_118
          have j117 : ∀ (H : Heap) (locs : List Loc) (ls : Array Slot), lv_has ls 4 [] → Wd D cy A Y M25 H → va_S A s.heap H locs → f_X12_beat_117 Y Kn M25  → W p l e rm_X12_beat s m args below meth c H locs 0 0 (MQ below (va_Qi Kn (BG D cy A Y) A) args s 0 0 A) (F0 m 117 ls []) := by
            intro  H locs ls hl hW hS hf
            unfold f_X12_beat_117 at hf
            refine lv_iconst (v := 0) hx hb dX12_beat_117 (by decide +kernel) ?_
            exact j118 _ _ _ _ (lv_sub hl [] rfl) hW hS hf
          refine lv_icmp_ne (tgt := 117) hx hb dX12_beat_96 (by decide) (fun c30 => ?_) (fun c30 => ?_)
          · replace hf := hf.1 c30
            exact j117  _ _ _ (lv_sub hl [] rfl) hW hS hf
          · replace hf := hf.2 c30
            refine lv_aload_n hx hb dX12_beat_99 rfl (lv_at hl 0 rfl) ?_
            obtain ⟨b31, hb31, hf⟩ := hf
            refine gm_getR (C := RX12) (T := TX12) (N := 68) (j := 38) hx hb hts inT_12 hown hK hW k7 (by decide) rfl (by decide) rfl (hts _ kw_1354) rfl dX12_beat_100 hb31 ?_
            refine lv_bipush (v := 8) hx hb dX12_beat_103 (by decide +kernel) ?_
            refine lv_iload_n hx hb dX12_beat_105 rfl (lv_at hl 1 rfl) ?_
            refine lv_imul hx hb dX12_beat_106 ?_
            refine lv_iload_n hx hb dX12_beat_107 rfl (lv_at hl 2 rfl) ?_
            refine lv_iadd hx hb dX12_beat_108 ?_
            obtain ⟨k32, hf⟩ := hf
            obtain ⟨h33, hf⟩ := hf
            refine gm_zald hx hb hK hW k32 h33 dX12_beat_109 ?_
            refine lv_if_ne (tgt := 117) hx hb dX12_beat_110 (by decide) (fun c34 => ?_) (fun c34 => ?_)
            · replace hf := hf.1 c34
              exact j117  _ _ _ (lv_sub hl [] rfl) hW hS hf
            · replace hf := hf.2 c34
              refine lv_iconst (v := 1) hx hb dX12_beat_113 (by decide +kernel) ?_
              refine lv_goto (tgt := 118) hx hb dX12_beat_114 (by decide) ?_
              exact j118 _ _ _ _ (lv_sub hl [] rfl) hW hS hf
        · replace hf := hf.2 c21
          exact j52  _ _ _ (lv_sub hl [0, 1, 2] rfl) hW hS hf
    · replace hf := hf.2 c8
      refine lv_iconst (v := 0) hx hb dX12_beat_26 (by decide +kernel) ?_
      exact gm_iret hx hb hr hlocks hW hS hf dX12_beat_27
  have j19 : ∀ (M35 : Mm) (H : Heap) (locs : List Loc) (ls : Array Slot), lv_has ls 4 [(0, .ref v0), (1, .int v1), (2, .int v2), (3, .int v3)] → Wd D cy A Y M35 H → va_S A s.heap H locs → f_X12_beat_19 Y v0 v1 v2 v3 Kn M35 → W p l e rm_X12_beat s m args below meth c H locs 0 0 (MQ below (va_Qi Kn (BG D cy A Y) A) args s 0 0 A) (F0 m 19 ls [.ref v0]) := by
    intro M35 H locs ls hl hW hS hf
    unfold f_X12_beat_19 at hf
    refine lv_iconst (v := 0) hx hb dX12_beat_19 (by decide +kernel) ?_
    exact j20 _ _ _ _ _ (lv_sub hl [0, 1, 2, 3] rfl) hW hS hf
  refine lv_if_eq (tgt := 19) hx hb dX12_beat_5 (by decide) (fun c36 => ?_) (fun c36 => ?_)
  · replace hf := hf.1 c36
    exact j19 _ _ _ _ (lv_sub hl [0, 1, 2, 3] rfl) hW hS hf
  · replace hf := hf.2 c36
    refine lv_iload_n hx hb dX12_beat_8 rfl (lv_at hl 2 rfl) ?_
    refine gm_ci (va_runS (As := [.int v2]) (rest := [.ref v0]) ⟨hx, hb, hml, hown, hts⟩ (m_X12_isOne l D cy tq _ Y _ _ _) (va_cwS 1 hts (good_S kw_1696 kw_1697 kw_12 kw_1698) rfl rfl rfl (by decide +kernel) ⟨Nat.le_of_ble_eq_true rfl, Nat.le_of_ble_eq_true rfl⟩) (gm_preS hK hW hC hS hA hf) rfl rfl hl.1 rfl (lv_room (Nat.le_of_ble_eq_true rfl)) dX12_beat_9 ⟨Nat.le_of_ble_eq_true rfl, Nat.le_of_ble_eq_true rfl⟩) hW hS hA (fun r38 M37 H locs hW hS hf => ?_)
    refine lv_if_eq (tgt := 19) hx hb dX12_beat_12 (by decide) (fun c39 => ?_) (fun c39 => ?_)
    · replace hf := hf.1 c39
      exact j19 _ _ _ _ (lv_sub hl [0, 1, 2, 3] rfl) hW hS hf
    · replace hf := hf.2 c39
      refine lv_iconst (v := 1) hx hb dX12_beat_15 (by decide +kernel) ?_
      refine lv_goto (tgt := 20) hx hb dX12_beat_16 (by decide) ?_
      exact j20 _ _ _ _ _ (lv_sub hl [0, 1, 2, 3] rfl) hW hS hf

abbrev rm_X12_owner : Room := { frames := 2, cells := 0, slots := 0, locals := 80 }
def L_X12_owner_14 (Y : Ly) (v0 : Nat) (v1 : Int32) (M : Mm) (x2 : Int32) (again5 : Int32 → Int32 → Prop) (x6 : Int32) (again14 : Int32 → Prop) : Prop :=
  yK Y v0 = 12 ∧ (∃ b8 : Nat, mR M v0 37 = some b8 ∧ (yK Y b8 = 103 ∧ (vp_in ((8 * v1) + (x6 - x6 / 8 * 8)) (yN Y b8) ∧ ((¬ (mI M b8 ((8 * v1) + (x6 - x6 / 8 * 8)).toNatClampNeg) = 0 → (∀ x13 : Int32, x13 = x2 + 1 → (again5 x6 x13))) ∧ ((mI M b8 ((8 * v1) + (x6 - x6 / 8 * 8)).toNatClampNeg) = 0 → (∀ x14 : Int32, x14 = x6 + 1 → (again14 x14)))))))
def L_X12_owner_5 (Y : Ly) (v0 : Nat) (v1 : Int32) (v2 : Int32) (M : Mm) (Kn : Int32 → Mm → Prop) (x1 : Int32) (x2 : Int32) (again5 : Int32 → Int32 → Prop) : Prop :=
  (v2 < x2 → (Kn (x1 - x1 / 8 * 8) M)) ∧ (¬ (v2 < x2) → (∀ x5 : Int32, x5 = x1 + 1 → (∃ n, LOOP1 (L_X12_owner_14 Y v0 v1 M x2 again5) n x5)))
def f_X12_owner (Y : Ly) (v0 : Nat) (v1 : Int32) (v2 : Int32) (M : Mm) (Kn : Int32 → Mm → Prop) : Prop :=
  ∃ n, LOOP2 (L_X12_owner_5 Y v0 v1 v2 M Kn) n (-1) 0
set_option maxHeartbeats 4000000 in
set_option maxRecDepth 100000 in
theorem m_X12_owner (l : Launch) (D : va_G) (cy : Cy) (tq sz : Nat) (Y : Ly) (v0 : Nat) (v1 : Int32) (v2 : Int32) (M : Mm) (Kn : Int32 → Mm → Prop) : Met l yX12_owner (Cond.code yX12_owner cX12_owner 5 (some .int) :: TT) rm_X12_owner (PcG D cy tq [.ref v0, .int v1, .int v2] sz Y M (f_X12_owner Y v0 v1 v2 M Kn)) (va_Qi Kn (BG D cy (Am Y sz) Y) (Am Y sz)) 0 0 (Am Y sz) := by
  refine Met.ofW (cc := cX12_owner) (maxL := 5) (ret := (some .int)) (by decide) rfl ?_
  intro p e s m args below meth c s₁ B hml hv
  obtain ⟨hargs, hsz, hW, hK, hC, hf⟩ := hv
  subst hsz
  have hx := B.exec
  have hb := B.bytes
  have hr := B.returns
  have hts : ∀ w ∈ TT, w.before args s = true := fun w h => atoms_spec (ws := Cond.code yX12_owner cX12_owner 5 (some .int) :: TT) B.pre w (List.mem_cons_of_mem _ h)
  have hown : s.vm.findClass RX12 = some m.cls := findClass_of_methodNamed B.named
  have hlocks := B.notSynchronized
  replace hW := Wd_self (sz := s.heap.size) hW
  generalize hAe : Am Y s.heap.size = A at hW hC ⊢
  have hA : ∀ q : Nat, s.heap.size ≤ q → A q := fun q h => by rw [← hAe]; exact Or.inr h
  clear hAe
  have hS : va_S A s.heap s.heap [] := va_S.rf
  obtain ⟨ls, hE, hl⟩ := gm_entry m [.ref v0, .int v1, .int v2] (n := 5) hargs (Nat.le_of_ble_eq_true rfl)
  rw [hE]
  have hl : lv_has ls 5 [(0, .ref v0), (1, .int v1), (2, .int v2)] := hl
  show W p l e rm_X12_owner s m args below meth c s.heap [] 0 0 (MQ below (va_Qi Kn (BG D cy A Y) A) args s 0 0 A) (F0 m 0 ls [])
  unfold f_X12_owner at hf
  refine lv_iconst (v := -1) hx hb dX12_owner_0 (by decide +kernel) ?_
  refine lv_istore_n (lv' := [(3, .int (-1)), (0, .ref v0), (1, .int v1), (2, .int v2)]) hx hb dX12_owner_1 rfl hl (by decide) rfl (fun ls hl => ?_)
  refine lv_iconst (v := 0) hx hb dX12_owner_2 (by decide +kernel) ?_
  refine lv_istore (lv' := [(4, .int 0), (3, .int (-1)), (0, .ref v0), (1, .int v1), (2, .int v2)]) hx hb dX12_owner_3 hl (by decide) rfl (fun ls hl => ?_)
  obtain ⟨n5, hf⟩ := hf
  have lp5 : ∀ (n5 : Nat) (x1 : Int32) (x2 : Int32) (H : Heap) (locs : List Loc) (ls : Array Slot), lv_has ls 5 [(0, .ref v0), (1, .int v1), (2, .int v2), (3, .int x1), (4, .int x2)] → Wd D cy A Y M H → va_S A s.heap H locs → LOOP2 (L_X12_owner_5 Y v0 v1 v2 M Kn) n5 x1 x2 → W p l e rm_X12_owner s m args below meth c H locs 0 0 (MQ below (va_Qi Kn (BG D cy A Y) A) args s 0 0 A) (F0 m 5 ls []) := by
    intro n5
    induction n5 with
    | zero => intro x1 x2 H locs ls hl hW hS hf; exact hf.elim
    | succ n5 ih5 =>
      intro x1 x2 H locs ls hl hW hS hf
      replace hf : L_X12_owner_5 Y v0 v1 v2 M Kn x1 x2 (LOOP2 (L_X12_owner_5 Y v0 v1 v2 M Kn) n5) := hf
      unfold L_X12_owner_5 at hf
      refine lv_iload hx hb dX12_owner_5 (lv_at hl 4 rfl) ?_
      refine lv_iload_n hx hb dX12_owner_7 rfl (lv_at hl 2 rfl) ?_
      refine lv_icmp_gt (tgt := 43) hx hb dX12_owner_8 (by decide) (fun c3 => ?_) (fun c3 => ?_)
      · replace hf := hf.1 c3
        refine lv_iload_n hx hb dX12_owner_43 rfl (lv_at hl 3 rfl) ?_
        refine lv_bipush (v := 8) hx hb dX12_owner_44 (by decide +kernel) ?_
        refine lv_irem hx hb dX12_owner_46 (by decide) ?_
        exact gm_iret hx hb hr hlocks hW hS hf dX12_owner_47
      · replace hf := hf.2 c3
        obtain ⟨x5, ex5⟩ : ∃ y : Int32, y = x1 + 1 := ⟨_, rfl⟩
        replace hf := hf x5 ex5
        refine lv_iinc (v := x5) (lv' := [(3, .int x5), (0, .ref v0), (1, .int v1), (2, .int v2), (4, .int x2)]) hx hb dX12_owner_11 hl (k := 3) rfl (by rw [ex5]; rfl) (by decide) rfl (fun ls hl => ?_)
        obtain ⟨n14, hf⟩ := hf
        have lp14 : ∀ (n14 : Nat) (x6 : Int32) (H : Heap) (locs : List Loc) (ls : Array Slot), lv_has ls 5 [(0, .ref v0), (1, .int v1), (2, .int v2), (3, .int x6), (4, .int x2)] → Wd D cy A Y M H → va_S A s.heap H locs → LOOP1 (L_X12_owner_14 Y v0 v1 M x2 (LOOP2 (L_X12_owner_5 Y v0 v1 v2 M Kn) n5)) n14 x6 → W p l e rm_X12_owner s m args below meth c H locs 0 0 (MQ below (va_Qi Kn (BG D cy A Y) A) args s 0 0 A) (F0 m 14 ls []) := by
          intro n14
          induction n14 with
          | zero => intro x6 H locs ls hl hW hS hf; exact hf.elim
          | succ n14 ih14 =>
            intro x6 H locs ls hl hW hS hf
            replace hf : L_X12_owner_14 Y v0 v1 M x2 (LOOP2 (L_X12_owner_5 Y v0 v1 v2 M Kn) n5) x6 (LOOP1 (L_X12_owner_14 Y v0 v1 M x2 (LOOP2 (L_X12_owner_5 Y v0 v1 v2 M Kn) n5)) n14) := hf
            unfold L_X12_owner_14 at hf
            refine lv_aload_n hx hb dX12_owner_14 rfl (lv_at hl 0 rfl) ?_
            obtain ⟨k7, hf⟩ := hf
            obtain ⟨b8, hb8, hf⟩ := hf
            refine gm_getR (C := RX12) (T := TX12) (N := 68) (j := 37) hx hb hts inT_12 hown hK hW k7 (by decide) rfl (by decide) rfl (hts _ kw_1353) rfl dX12_owner_15 hb8 ?_
            refine lv_bipush (v := 8) hx hb dX12_owner_18 (by decide +kernel) ?_
            refine lv_iload_n hx hb dX12_owner_20 rfl (lv_at hl 1 rfl) ?_
            refine lv_imul hx hb dX12_owner_21 ?_
            refine lv_iload_n hx hb dX12_owner_22 rfl (lv_at hl 3 rfl) ?_
            refine lv_bipush (v := 8) hx hb dX12_owner_23 (by decide +kernel) ?_
            refine lv_irem hx hb dX12_owner_25 (by decide) ?_
            refine lv_iadd hx hb dX12_owner_26 ?_
            obtain ⟨k10, hf⟩ := hf
            obtain ⟨h11, hf⟩ := hf
            refine gm_zald hx hb hK hW k10 h11 dX12_owner_27 ?_
            refine lv_if_ne (tgt := 37) hx hb dX12_owner_28 (by decide) (fun c12 => ?_) (fun c12 => ?_)
            · replace hf := hf.1 c12
              obtain ⟨x13, ex13⟩ : ∃ y : Int32, y = x2 + 1 := ⟨_, rfl⟩
              replace hf := hf x13 ex13
              refine lv_iinc (v := x13) (lv' := [(4, .int x13), (0, .ref v0), (1, .int v1), (2, .int v2), (3, .int x6)]) hx hb dX12_owner_37 hl (k := 4) rfl (by rw [ex13]; rfl) (by decide) rfl (fun ls hl => ?_)
              refine lv_goto (tgt := 5) hx hb dX12_owner_40 (by decide) ?_
              exact ih5 _ _ _ _ _ (lv_sub hl [1, 2, 3, 4, 0] rfl) hW hS hf
            · replace hf := hf.2 c12
              obtain ⟨x14, ex14⟩ : ∃ y : Int32, y = x6 + 1 := ⟨_, rfl⟩
              replace hf := hf x14 ex14
              refine lv_iinc (v := x14) (lv' := [(3, .int x14), (0, .ref v0), (1, .int v1), (2, .int v2), (4, .int x2)]) hx hb dX12_owner_31 hl (k := 3) rfl (by rw [ex14]; rfl) (by decide) rfl (fun ls hl => ?_)
              refine lv_goto (tgt := 14) hx hb dX12_owner_34 (by decide) ?_
              exact ih14 _ _ _ _ (lv_sub hl [1, 2, 3, 0, 4] rfl) hW hS hf
        exact lp14 n14 _ _ _ _ (lv_sub hl [1, 2, 3, 0, 4] rfl) hW hS hf
  exact lp5 n5 _ _ _ _ _ (lv_sub hl [2, 3, 4, 1, 0] rfl) hW hS hf

abbrev rm_X12_commit : Room := { frames := 6, cells := 0, slots := 0, locals := 178 }
def f_X12_commit_125 (Y : Ly) (Kn : Int32 → Mm → Prop) (M21 : Mm) : Prop :=
  Kn (-12) M21
def f_X12_commit_34 (Y : Ly) (v0 : Nat) (v1 : Int32) (v2 : Int32) (v3 : Int32) (v4 : Int32) (v5 : Int64) (Kn : Int32 → Mm → Prop) (y3 : Int32) (M4 : Mm) : Prop :=
  yK Y v0 = 12 ∧ (f_X12_goes Y v0 y3 M4 (fun r6 M5 => ((¬ r6 = 0 → (∃ b9 : Nat, mR M5 v0 37 = some b9 ∧ (yK Y b9 = 103 ∧ (vp_in ((8 * v1) + v2) (yN Y b9) ∧ ((¬ (mI M5 b9 ((8 * v1) + v2).toNatClampNeg) = 0 → (∃ b13 : Nat, mR M5 v0 35 = some b13 ∧ (yK Y b13 = 101 ∧ (vp_in v1 (yN Y b13) ∧ ((v3 = (mI M5 b13 v1.toNatClampNeg) → (∃ b17 : Nat, mR M5 v0 34 = some b17 ∧ (yK Y b17 = 101 ∧ (vp_in v1 (yN Y b17) ∧ (((mI M5 b17 v1.toNatClampNeg) = 2 → (f_X12_owner Y v0 v1 v4 M5 (fun r22 M21 => ((r22 = v2 → (∃ b24 : Nat, mR M21 v0 26 = some b24 ∧ (yK Y b24 = 102 ∧ (vp_in v4 (yN Y b24) ∧ ((v5 < (mJ M21 b24 v4.toNatClampNeg) → (f_X12_commit_125 Y Kn M21)) ∧ (¬ (v5 < (mJ M21 b24 v4.toNatClampNeg)) → (∃ b28 : Nat, mR M21 v0 27 = some b28 ∧ (yK Y b28 = 102 ∧ (vp_in v4 (yN Y b28) ∧ ((v5 ≤ (mJ M21 b28 v4.toNatClampNeg) → (f_X12_notes Y v0 v1 v4 v5 M21 (fun r33 M32 => ((r33 = 1 → (∃ b35 : Nat, mR M32 v0 39 = some b35 ∧ (yK Y b35 = 101 ∧ (vp_in ((8 * v1) + v2) (yN Y b35) ∧ (∀ M38 : Mm, M38 = sI M32 b35 (m1 (mI M32 b35) ((8 * v1) + v2).toNatClampNeg (mI M32 v0 4)) → (Kn 0 M38)))))) ∧ (¬ (r33 = 1) → (Kn r33 M32)))))) ∧ (¬ (v5 ≤ (mJ M21 b28 v4.toNatClampNeg)) → (f_X12_commit_125 Y Kn M21)))))))))))) ∧ (¬ (r22 = v2) → (Kn (-11) M21)))))) ∧ (¬ ((mI M5 b17 v1.toNatClampNeg) = 2) → (Kn (-10) M5))))))) ∧ (¬ (v3 = (mI M5 b13 v1.toNatClampNeg)) → (Kn (-9) M5))))))) ∧ ((mI M5 b9 ((8 * v1) + v2).toNatClampNeg) = 0 → (Kn (-8) M5))))))) ∧ (r6 = 0 → (Kn 0 M5)))))
def f_X12_commit_33 (Y : Ly) (v0 : Nat) (v1 : Int32) (v2 : Int32) (v3 : Int32) (v4 : Int32) (v5 : Int64) (Kn : Int32 → Mm → Prop) (M39 : Mm) : Prop :=
  f_X12_commit_34 Y v0 v1 v2 v3 v4 v5 Kn 0 M39
def f_X12_commit (Y : Ly) (v0 : Nat) (v1 : Int32) (v2 : Int32) (v3 : Int32) (v4 : Int32) (v5 : Int64) (M : Mm) (Kn : Int32 → Mm → Prop) : Prop :=
  f_X12_isOne Y v1 M (fun r2 M1 => ((r2 = 0 → (f_X12_commit_33 Y v0 v1 v2 v3 v4 v5 Kn M1)) ∧ (¬ (r2 = 0) → (f_X12_isOne Y v2 M1 (fun r42 M41 => ((r42 = 0 → (f_X12_commit_33 Y v0 v1 v2 v3 v4 v5 Kn M41)) ∧ (¬ (r42 = 0) → ((v4 < 0 → (f_X12_commit_33 Y v0 v1 v2 v3 v4 v5 Kn M41)) ∧ (¬ (v4 < 0) → (yK Y v0 = 12 ∧ (((mI M41 v0 1) ≤ v4 → (f_X12_commit_33 Y v0 v1 v2 v3 v4 v5 Kn M41)) ∧ (¬ ((mI M41 v0 1) ≤ v4) → (f_X12_commit_34 Y v0 v1 v2 v3 v4 v5 Kn 1 M41)))))))))))))
set_option maxHeartbeats 4000000 in
set_option maxRecDepth 100000 in
theorem m_X12_commit (l : Launch) (D : va_G) (cy : Cy) (tq sz : Nat) (Y : Ly) (v0 : Nat) (v1 : Int32) (v2 : Int32) (v3 : Int32) (v4 : Int32) (v5 : Int64) (M : Mm) (Kn : Int32 → Mm → Prop) : Met l yX12_commit (Cond.code yX12_commit cX12_commit 8 (some .int) :: TT) rm_X12_commit (PcG D cy tq [.ref v0, .int v1, .int v2, .int v3, .int v4, .long v5] sz Y M (f_X12_commit Y v0 v1 v2 v3 v4 v5 M Kn)) (va_Qi Kn (BG D cy (Am Y sz) Y) (Am Y sz)) 0 0 (Am Y sz) := by
  refine Met.ofW (cc := cX12_commit) (maxL := 8) (ret := (some .int)) (by decide) rfl ?_
  intro p e s m args below meth c s₁ B hml hv
  obtain ⟨hargs, hsz, hW, hK, hC, hf⟩ := hv
  subst hsz
  have hx := B.exec
  have hb := B.bytes
  have hr := B.returns
  have hts : ∀ w ∈ TT, w.before args s = true := fun w h => atoms_spec (ws := Cond.code yX12_commit cX12_commit 8 (some .int) :: TT) B.pre w (List.mem_cons_of_mem _ h)
  have hown : s.vm.findClass RX12 = some m.cls := findClass_of_methodNamed B.named
  have hlocks := B.notSynchronized
  replace hW := Wd_self (sz := s.heap.size) hW
  generalize hAe : Am Y s.heap.size = A at hW hC ⊢
  have hA : ∀ q : Nat, s.heap.size ≤ q → A q := fun q h => by rw [← hAe]; exact Or.inr h
  clear hAe
  have hS : va_S A s.heap s.heap [] := va_S.rf
  obtain ⟨ls, hE, hl⟩ := gm_entry m [.ref v0, .int v1, .int v2, .int v3, .int v4, .long v5] (n := 8) hargs (Nat.le_of_ble_eq_true rfl)
  rw [hE]
  have hl : lv_has ls 8 [(0, .ref v0), (1, .int v1), (2, .int v2), (3, .int v3), (4, .int v4), (5, .long v5)] := hl
  show W p l e rm_X12_commit s m args below meth c s.heap [] 0 0 (MQ below (va_Qi Kn (BG D cy A Y) A) args s 0 0 A) (F0 m 0 ls [])
  unfold f_X12_commit at hf
  refine lv_aload_n hx hb dX12_commit_0 rfl (lv_at hl 0 rfl) ?_
  refine lv_iload_n hx hb dX12_commit_1 rfl (lv_at hl 1 rfl) ?_
  refine gm_ci (va_runS (As := [.int v1]) (rest := [.ref v0]) ⟨hx, hb, hml, hown, hts⟩ (m_X12_isOne l D cy tq _ Y _ _ _) (va_cwS 1 hts (good_S kw_1696 kw_1697 kw_12 kw_1698) rfl rfl rfl (by decide +kernel) ⟨Nat.le_of_ble_eq_true rfl, Nat.le_of_ble_eq_true rfl⟩) (gm_preS hK hW hC hS hA hf) rfl rfl hl.1 rfl (lv_room (Nat.le_of_ble_eq_true rfl)) dX12_commit_2 ⟨Nat.le_of_ble_eq_true rfl, Nat.le_of_ble_eq_true rfl⟩) hW hS hA (fun r2 M1 H locs hW hS hf => ?_)
  have j34 : ∀ (y3 : Int32) (M4 : Mm) (H : Heap) (locs : List Loc) (ls : Array Slot), lv_has ls 8 [(0, .ref v0), (1, .int v1), (2, .int v2), (3, .int v3), (4, .int v4), (5, .long v5)] → Wd D cy A Y M4 H → va_S A s.heap H locs → f_X12_commit_34 Y v0 v1 v2 v3 v4 v5 Kn y3 M4 → W p l e rm_X12_commit s m args below meth c H locs 0 0 (MQ below (va_Qi Kn (BG D cy A Y) A) args s 0 0 A) (F0 m 34 ls [.int y3, .ref v0]) := by
    intro y3 M4 H locs ls hl hW hS hf
    unfold f_X12_commit_34 at hf
    obtain ⟨k7, hf⟩ := hf
    refine gm_ci (va_runV (As := [.int y3]) (rest := []) ⟨hx, hb, hml, hown, hts⟩ (m_X12_goes l D cy tq _ Y _ _ _ _) (cwV 1 hts (good_V kw_1564 kw_1565 kw_1838 kw_12 kw_1566) rfl rfl rfl (by decide +kernel) ⟨Nat.le_of_ble_eq_true rfl, Nat.le_of_ble_eq_true rfl⟩) (gm_preV hK hW hC hS hA k7 (by decide) (q := (RX12, TX12, 68)) rfl rfl hf) rfl rfl hl.1 rfl (lv_room (Nat.le_of_ble_eq_true rfl)) dX12_commit_34 ⟨Nat.le_of_ble_eq_true rfl, Nat.le_of_ble_eq_true rfl⟩) hW hS hA (fun r6 M5 H locs hW hS hf => ?_)
    refine lv_if_ne (tgt := 42) hx hb dX12_commit_37 (by decide) (fun c8 => ?_) (fun c8 => ?_)
    · replace hf := hf.1 c8
      refine lv_aload_n hx hb dX12_commit_42 rfl (lv_at hl 0 rfl) ?_
      obtain ⟨b9, hb9, hf⟩ := hf
      refine gm_getR (C := RX12) (T := TX12) (N := 68) (j := 37) hx hb hts inT_12 hown hK hW k7 (by decide) rfl (by decide) rfl (hts _ kw_1353) rfl dX12_commit_43 hb9 ?_
      refine lv_bipush (v := 8) hx hb dX12_commit_46 (by decide +kernel) ?_
      refine lv_iload_n hx hb dX12_commit_48 rfl (lv_at hl 1 rfl) ?_
      refine lv_imul hx hb dX12_commit_49 ?_
      refine lv_iload_n hx hb dX12_commit_50 rfl (lv_at hl 2 rfl) ?_
      refine lv_iadd hx hb dX12_commit_51 ?_
      obtain ⟨k10, hf⟩ := hf
      obtain ⟨h11, hf⟩ := hf
      refine gm_zald hx hb hK hW k10 h11 dX12_commit_52 ?_
      refine lv_if_ne (tgt := 59) hx hb dX12_commit_53 (by decide) (fun c12 => ?_) (fun c12 => ?_)
      · replace hf := hf.1 c12
        refine lv_iload_n hx hb dX12_commit_59 rfl (lv_at hl 3 rfl) ?_
        refine lv_aload_n hx hb dX12_commit_60 rfl (lv_at hl 0 rfl) ?_
        obtain ⟨b13, hb13, hf⟩ := hf
        refine gm_getR (C := RX12) (T := TX12) (N := 68) (j := 35) hx hb hts inT_12 hown hK hW k7 (by decide) rfl (by decide) rfl (hts _ kw_1351) rfl dX12_commit_61 hb13 ?_
        refine lv_iload_n hx hb dX12_commit_64 rfl (lv_at hl 1 rfl) ?_
        obtain ⟨k14, hf⟩ := hf
        obtain ⟨h15, hf⟩ := hf
        refine gm_iald hx hb hK hW k14 h15 dX12_commit_65 ?_
        refine lv_icmp_eq (tgt := 72) hx hb dX12_commit_66 (by decide) (fun c16 => ?_) (fun c16 => ?_)
        · replace hf := hf.1 c16
          refine lv_aload_n hx hb dX12_commit_72 rfl (lv_at hl 0 rfl) ?_
          obtain ⟨b17, hb17, hf⟩ := hf
          refine gm_getR (C := RX12) (T := TX12) (N := 68) (j := 34) hx hb hts inT_12 hown hK hW k7 (by decide) rfl (by decide) rfl (hts _ kw_1350) rfl dX12_commit_73 hb17 ?_
          refine lv_iload_n hx hb dX12_commit_76 rfl (lv_at hl 1 rfl) ?_
          obtain ⟨k18, hf⟩ := hf
          obtain ⟨h19, hf⟩ := hf
          refine gm_iald hx hb hK hW k18 h19 dX12_commit_77 ?_
          refine lv_iconst (v := 2) hx hb dX12_commit_78 (by decide +kernel) ?_
          refine lv_icmp_eq (tgt := 85) hx hb dX12_commit_79 (by decide) (fun c20 => ?_) (fun c20 => ?_)
          · replace hf := hf.1 c20
            refine lv_aload_n hx hb dX12_commit_85 rfl (lv_at hl 0 rfl) ?_
            refine lv_iload_n hx hb dX12_commit_86 rfl (lv_at hl 1 rfl) ?_
            refine lv_iload hx hb dX12_commit_87 (lv_at hl 4 rfl) ?_
            refine gm_ci (va_runV (As := [.int v1, .int v4]) (rest := []) ⟨hx, hb, hml, hown, hts⟩ (m_X12_owner l D cy tq _ Y _ _ _ _ _) (cwV 2 hts (good_V kw_1730 kw_1731 kw_1872 kw_12 kw_1732) rfl rfl rfl (by decide +kernel) ⟨Nat.le_of_ble_eq_true rfl, Nat.le_of_ble_eq_true rfl⟩) (gm_preV hK hW hC hS hA k7 (by decide) (q := (RX12, TX12, 68)) rfl rfl hf) rfl rfl hl.1 rfl (lv_room (Nat.le_of_ble_eq_true rfl)) dX12_commit_89 ⟨Nat.le_of_ble_eq_true rfl, Nat.le_of_ble_eq_true rfl⟩) hW hS hA (fun r22 M21 H locs hW hS hf => ?_)
            refine lv_iload_n hx hb dX12_commit_92 rfl (lv_at hl 2 rfl) ?_
            refine lv_icmp_eq (tgt := 99) hx hb dX12_commit_93 (by decide) (fun c23 => ?_) (fun c23 => ?_)
            · replace hf := hf.1 c23
              refine lv_lload hx hb dX12_commit_99 (lv_at hl 5 rfl) ?_
              refine lv_aload_n hx hb dX12_commit_101 rfl (lv_at hl 0 rfl) ?_
              obtain ⟨b24, hb24, hf⟩ := hf
              refine gm_getR (C := RX12) (T := TX12) (N := 68) (j := 26) hx hb hts inT_12 hown hK hW k7 (by decide) rfl (by decide) rfl (hts _ kw_1342) rfl dX12_commit_102 hb24 ?_
              refine lv_iload hx hb dX12_commit_105 (lv_at hl 4 rfl) ?_
              obtain ⟨k25, hf⟩ := hf
              obtain ⟨h26, hf⟩ := hf
              refine gm_lald hx hb hK hW k25 h26 dX12_commit_107 ?_
              refine W.lcmp hx hb dX12_commit_108 ?_
              have j125 : ∀ (H : Heap) (locs : List Loc) (ls : Array Slot), lv_has ls 8 [] → Wd D cy A Y M21 H → va_S A s.heap H locs → f_X12_commit_125 Y Kn M21  → W p l e rm_X12_commit s m args below meth c H locs 0 0 (MQ below (va_Qi Kn (BG D cy A Y) A) args s 0 0 A) (F0 m 125 ls []) := by
                intro  H locs ls hl hW hS hf
                unfold f_X12_commit_125 at hf
                refine lv_bipush (v := -12) hx hb dX12_commit_125 (by decide +kernel) ?_
                exact gm_iret hx hb hr hlocks hW hS hf dX12_commit_127
              refine lv_if_lt (tgt := 125) hx hb dX12_commit_109 (by decide) (fun c27 => ?_) (fun c27 => ?_)
              · replace hf := hf.1 (lg_lt.mp c27)
                exact j125  _ _ _ (lv_sub hl [] rfl) hW hS hf
              · replace hf := hf.2 (fun z => c27 (lg_lt.mpr z))
                refine lv_lload hx hb dX12_commit_112 (lv_at hl 5 rfl) ?_
                refine lv_aload_n hx hb dX12_commit_114 rfl (lv_at hl 0 rfl) ?_
                obtain ⟨b28, hb28, hf⟩ := hf
                refine gm_getR (C := RX12) (T := TX12) (N := 68) (j := 27) hx hb hts inT_12 hown hK hW k7 (by decide) rfl (by decide) rfl (hts _ kw_1343) rfl dX12_commit_115 hb28 ?_
                refine lv_iload hx hb dX12_commit_118 (lv_at hl 4 rfl) ?_
                obtain ⟨k29, hf⟩ := hf
                obtain ⟨h30, hf⟩ := hf
                refine gm_lald hx hb hK hW k29 h30 dX12_commit_120 ?_
                refine W.lcmp hx hb dX12_commit_121 ?_
                refine lv_if_le (tgt := 128) hx hb dX12_commit_122 (by decide) (fun c31 => ?_) (fun c31 => ?_)
                · replace hf := hf.1 (lg_le.mp c31)
                  refine lv_aload_n hx hb dX12_commit_128 rfl (lv_at hl 0 rfl) ?_
                  refine lv_iload_n hx hb dX12_commit_129 rfl (lv_at hl 1 rfl) ?_
                  refine lv_iload hx hb dX12_commit_130 (lv_at hl 4 rfl) ?_
                  refine lv_lload hx hb dX12_commit_132 (lv_at hl 5 rfl) ?_
                  refine gm_ci (va_runV (As := [.int v1, .int v4, .long v5]) (rest := []) ⟨hx, hb, hml, hown, hts⟩ (m_X12_notes l D cy tq _ Y _ _ _ _ _ _) (cwV 3 hts (good_V kw_1711 kw_1712 kw_1870 kw_12 kw_1713) rfl rfl rfl (by decide +kernel) ⟨Nat.le_of_ble_eq_true rfl, Nat.le_of_ble_eq_true rfl⟩) (gm_preV hK hW hC hS hA k7 (by decide) (q := (RX12, TX12, 68)) rfl rfl hf) rfl rfl hl.1 rfl (lv_room (Nat.le_of_ble_eq_true rfl)) dX12_commit_134 ⟨Nat.le_of_ble_eq_true rfl, Nat.le_of_ble_eq_true rfl⟩) hW hS hA (fun r33 M32 H locs hW hS hf => ?_)
                  refine lv_istore (lv' := [(7, .int r33), (0, .ref v0), (1, .int v1), (2, .int v2), (3, .int v3), (4, .int v4), (5, .long v5)]) hx hb dX12_commit_137 hl (by decide) rfl (fun ls hl => ?_)
                  refine lv_iload hx hb dX12_commit_139 (lv_at hl 0 rfl) ?_
                  refine lv_iconst (v := 1) hx hb dX12_commit_141 (by decide +kernel) ?_
                  refine lv_icmp_eq (tgt := 148) hx hb dX12_commit_142 (by decide) (fun c34 => ?_) (fun c34 => ?_)
                  · replace hf := hf.1 c34
                    refine lv_aload_n hx hb dX12_commit_148 rfl (lv_at hl 1 rfl) ?_
                    obtain ⟨b35, hb35, hf⟩ := hf
                    refine gm_getR (C := RX12) (T := TX12) (N := 68) (j := 39) hx hb hts inT_12 hown hK hW k7 (by decide) rfl (by decide) rfl (hts _ kw_1355) rfl dX12_commit_149 hb35 ?_
                    refine lv_bipush (v := 8) hx hb dX12_commit_152 (by decide +kernel) ?_
                    refine lv_iload_n hx hb dX12_commit_154 rfl (lv_at hl 2 rfl) ?_
                    refine lv_imul hx hb dX12_commit_155 ?_
                    refine lv_iload_n hx hb dX12_commit_156 rfl (lv_at hl 3 rfl) ?_
                    refine lv_iadd hx hb dX12_commit_157 ?_
                    refine lv_aload_n hx hb dX12_commit_158 rfl (lv_at hl 1 rfl) ?_
                    refine gm_getI (C := RX12) (T := TX12) (N := 68) (j := 4) hx hb hts inT_12 hown hK hW k7 (by decide) rfl (by decide) rfl (hts _ kw_1320) rfl dX12_commit_159 ?_
                    obtain ⟨k36, hf⟩ := hf
                    obtain ⟨h37, hf⟩ := hf
                    refine gm_iast hx hb hK hW hS k36 h37 dX12_commit_162 (fun H locs M38 eM38 hW hS => ?_)
                    replace hf := hf M38 eM38
                    refine lv_iconst (v := 0) hx hb dX12_commit_163 (by decide +kernel) ?_
                    exact gm_iret hx hb hr hlocks hW hS hf dX12_commit_164
                  · replace hf := hf.2 c34
                    refine lv_iload hx hb dX12_commit_145 (lv_at hl 0 rfl) ?_
                    exact gm_iret hx hb hr hlocks hW hS hf dX12_commit_147
                · replace hf := hf.2 (fun z => c31 (lg_le.mpr z))
                  exact j125  _ _ _ (lv_sub hl [] rfl) hW hS hf
            · replace hf := hf.2 c23
              refine lv_bipush (v := -11) hx hb dX12_commit_96 (by decide +kernel) ?_
              exact gm_iret hx hb hr hlocks hW hS hf dX12_commit_98
          · replace hf := hf.2 c20
            refine lv_bipush (v := -10) hx hb dX12_commit_82 (by decide +kernel) ?_
            exact gm_iret hx hb hr hlocks hW hS hf dX12_commit_84
        · replace hf := hf.2 c16
          refine lv_bipush (v := -9) hx hb dX12_commit_69 (by decide +kernel) ?_
          exact gm_iret hx hb hr hlocks hW hS hf dX12_commit_71
      · replace hf := hf.2 c12
        refine lv_bipush (v := -8) hx hb dX12_commit_56 (by decide +kernel) ?_
        exact gm_iret hx hb hr hlocks hW hS hf dX12_commit_58
    · replace hf := hf.2 c8
      refine lv_iconst (v := 0) hx hb dX12_commit_40 (by decide +kernel) ?_
      exact gm_iret hx hb hr hlocks hW hS hf dX12_commit_41
  have j33 : ∀ (M39 : Mm) (H : Heap) (locs : List Loc) (ls : Array Slot), lv_has ls 8 [(0, .ref v0), (1, .int v1), (2, .int v2), (3, .int v3), (4, .int v4), (5, .long v5)] → Wd D cy A Y M39 H → va_S A s.heap H locs → f_X12_commit_33 Y v0 v1 v2 v3 v4 v5 Kn M39 → W p l e rm_X12_commit s m args below meth c H locs 0 0 (MQ below (va_Qi Kn (BG D cy A Y) A) args s 0 0 A) (F0 m 33 ls [.ref v0]) := by
    intro M39 H locs ls hl hW hS hf
    unfold f_X12_commit_33 at hf
    refine lv_iconst (v := 0) hx hb dX12_commit_33 (by decide +kernel) ?_
    exact j34 _ _ _ _ _ (lv_sub hl [0, 1, 2, 3, 4, 5] rfl) hW hS hf
  refine lv_if_eq (tgt := 33) hx hb dX12_commit_5 (by decide) (fun c40 => ?_) (fun c40 => ?_)
  · replace hf := hf.1 c40
    exact j33 _ _ _ _ (lv_sub hl [0, 1, 2, 3, 4, 5] rfl) hW hS hf
  · replace hf := hf.2 c40
    refine lv_iload_n hx hb dX12_commit_8 rfl (lv_at hl 2 rfl) ?_
    refine gm_ci (va_runS (As := [.int v2]) (rest := [.ref v0]) ⟨hx, hb, hml, hown, hts⟩ (m_X12_isOne l D cy tq _ Y _ _ _) (va_cwS 1 hts (good_S kw_1696 kw_1697 kw_12 kw_1698) rfl rfl rfl (by decide +kernel) ⟨Nat.le_of_ble_eq_true rfl, Nat.le_of_ble_eq_true rfl⟩) (gm_preS hK hW hC hS hA hf) rfl rfl hl.1 rfl (lv_room (Nat.le_of_ble_eq_true rfl)) dX12_commit_9 ⟨Nat.le_of_ble_eq_true rfl, Nat.le_of_ble_eq_true rfl⟩) hW hS hA (fun r42 M41 H locs hW hS hf => ?_)
    refine lv_if_eq (tgt := 33) hx hb dX12_commit_12 (by decide) (fun c43 => ?_) (fun c43 => ?_)
    · replace hf := hf.1 c43
      exact j33 _ _ _ _ (lv_sub hl [0, 1, 2, 3, 4, 5] rfl) hW hS hf
    · replace hf := hf.2 c43
      refine lv_iload hx hb dX12_commit_15 (lv_at hl 4 rfl) ?_
      refine lv_if_lt (tgt := 33) hx hb dX12_commit_17 (by decide) (fun c44 => ?_) (fun c44 => ?_)
      · replace hf := hf.1 c44
        exact j33 _ _ _ _ (lv_sub hl [0, 1, 2, 3, 4, 5] rfl) hW hS hf
      · replace hf := hf.2 c44
        refine lv_iload hx hb dX12_commit_20 (lv_at hl 4 rfl) ?_
        refine lv_aload_n hx hb dX12_commit_22 rfl (lv_at hl 0 rfl) ?_
        obtain ⟨k45, hf⟩ := hf
        refine gm_getI (C := RX12) (T := TX12) (N := 68) (j := 1) hx hb hts inT_12 hown hK hW k45 (by decide) rfl (by decide) rfl (hts _ kw_1317) rfl dX12_commit_23 ?_
        refine lv_icmp_ge (tgt := 33) hx hb dX12_commit_26 (by decide) (fun c46 => ?_) (fun c46 => ?_)
        · replace hf := hf.1 c46
          exact j33 _ _ _ _ (lv_sub hl [0, 1, 2, 3, 4, 5] rfl) hW hS hf
        · replace hf := hf.2 c46
          refine lv_iconst (v := 1) hx hb dX12_commit_29 (by decide +kernel) ?_
          refine lv_goto (tgt := 34) hx hb dX12_commit_30 (by decide) ?_
          exact j34 _ _ _ _ _ (lv_sub hl [0, 1, 2, 3, 4, 5] rfl) hW hS hf

abbrev rm_X12_committed : Room := { frames := 6, cells := 0, slots := 0, locals := 177 }
def f_X12_committed_41 (Y : Ly) (Kn : Int64 → Mm → Prop) (y7 : Int64) (M8 : Mm) : Prop :=
  Kn y7 M8
def f_X12_committed_25 (Y : Ly) (v0 : Nat) (v1 : Int32) (v2 : Int32) (Kn : Int64 → Mm → Prop) (M1 : Mm) (y3 : Int32) : Prop :=
  yK Y v0 = 12 ∧ (f_X12_goes Y v0 y3 M1 (fun r5 M4 => ((r5 = 0 → (f_X12_committed_41 Y Kn 0 M4)) ∧ (¬ (r5 = 0) → (f_X12_noted Y v0 v1 v2 M4 (fun r11 M10 => (f_X12_committed_41 Y Kn r11 M10)))))))
def f_X12_committed_24 (Y : Ly) (v0 : Nat) (v1 : Int32) (v2 : Int32) (Kn : Int64 → Mm → Prop) (M1 : Mm) : Prop :=
  f_X12_committed_25 Y v0 v1 v2 Kn M1 0
def f_X12_committed (Y : Ly) (v0 : Nat) (v1 : Int32) (v2 : Int32) (M : Mm) (Kn : Int64 → Mm → Prop) : Prop :=
  f_X12_isOne Y v1 M (fun r2 M1 => ((r2 = 0 → (f_X12_committed_24 Y v0 v1 v2 Kn M1)) ∧ (¬ (r2 = 0) → ((v2 < 0 → (f_X12_committed_24 Y v0 v1 v2 Kn M1)) ∧ (¬ (v2 < 0) → (yK Y v0 = 12 ∧ (((mI M1 v0 1) ≤ v2 → (f_X12_committed_24 Y v0 v1 v2 Kn M1)) ∧ (¬ ((mI M1 v0 1) ≤ v2) → (f_X12_committed_25 Y v0 v1 v2 Kn M1 1)))))))))
set_option maxHeartbeats 4000000 in
set_option maxRecDepth 100000 in
theorem m_X12_committed (l : Launch) (D : va_G) (cy : Cy) (tq sz : Nat) (Y : Ly) (v0 : Nat) (v1 : Int32) (v2 : Int32) (M : Mm) (Kn : Int64 → Mm → Prop) : Met l yX12_committed (Cond.code yX12_committed cX12_committed 3 (some .long) :: TT) rm_X12_committed (PcG D cy tq [.ref v0, .int v1, .int v2] sz Y M (f_X12_committed Y v0 v1 v2 M Kn)) (va_Ql Kn (BG D cy (Am Y sz) Y) (Am Y sz)) 0 0 (Am Y sz) := by
  refine Met.ofW (cc := cX12_committed) (maxL := 3) (ret := (some .long)) (by decide) rfl ?_
  intro p e s m args below meth c s₁ B hml hv
  obtain ⟨hargs, hsz, hW, hK, hC, hf⟩ := hv
  subst hsz
  have hx := B.exec
  have hb := B.bytes
  have hr := B.returns
  have hts : ∀ w ∈ TT, w.before args s = true := fun w h => atoms_spec (ws := Cond.code yX12_committed cX12_committed 3 (some .long) :: TT) B.pre w (List.mem_cons_of_mem _ h)
  have hown : s.vm.findClass RX12 = some m.cls := findClass_of_methodNamed B.named
  have hlocks := B.notSynchronized
  replace hW := Wd_self (sz := s.heap.size) hW
  generalize hAe : Am Y s.heap.size = A at hW hC ⊢
  have hA : ∀ q : Nat, s.heap.size ≤ q → A q := fun q h => by rw [← hAe]; exact Or.inr h
  clear hAe
  have hS : va_S A s.heap s.heap [] := va_S.rf
  obtain ⟨ls, hE, hl⟩ := gm_entry m [.ref v0, .int v1, .int v2] (n := 3) hargs (Nat.le_of_ble_eq_true rfl)
  rw [hE]
  have hl : lv_has ls 3 [(0, .ref v0), (1, .int v1), (2, .int v2)] := hl
  show W p l e rm_X12_committed s m args below meth c s.heap [] 0 0 (MQ below (va_Ql Kn (BG D cy A Y) A) args s 0 0 A) (F0 m 0 ls [])
  unfold f_X12_committed at hf
  refine lv_aload_n hx hb dX12_committed_0 rfl (lv_at hl 0 rfl) ?_
  refine lv_iload_n hx hb dX12_committed_1 rfl (lv_at hl 1 rfl) ?_
  refine gm_ci (va_runS (As := [.int v1]) (rest := [.ref v0]) ⟨hx, hb, hml, hown, hts⟩ (m_X12_isOne l D cy tq _ Y _ _ _) (va_cwS 1 hts (good_S kw_1696 kw_1697 kw_12 kw_1698) rfl rfl rfl (by decide +kernel) ⟨Nat.le_of_ble_eq_true rfl, Nat.le_of_ble_eq_true rfl⟩) (gm_preS hK hW hC hS hA hf) rfl rfl hl.1 rfl (lv_room (Nat.le_of_ble_eq_true rfl)) dX12_committed_2 ⟨Nat.le_of_ble_eq_true rfl, Nat.le_of_ble_eq_true rfl⟩) hW hS hA (fun r2 M1 H locs hW hS hf => ?_)
  have j25 : ∀ (y3 : Int32) (H : Heap) (locs : List Loc) (ls : Array Slot), lv_has ls 3 [(0, .ref v0), (1, .int v1), (2, .int v2)] → Wd D cy A Y M1 H → va_S A s.heap H locs → f_X12_committed_25 Y v0 v1 v2 Kn M1 y3 → W p l e rm_X12_committed s m args below meth c H locs 0 0 (MQ below (va_Ql Kn (BG D cy A Y) A) args s 0 0 A) (F0 m 25 ls [.int y3, .ref v0]) := by
    intro y3 H locs ls hl hW hS hf
    unfold f_X12_committed_25 at hf
    obtain ⟨k6, hf⟩ := hf
    refine gm_ci (va_runV (As := [.int y3]) (rest := []) ⟨hx, hb, hml, hown, hts⟩ (m_X12_goes l D cy tq _ Y _ _ _ _) (cwV 1 hts (good_V kw_1564 kw_1565 kw_1838 kw_12 kw_1566) rfl rfl rfl (by decide +kernel) ⟨Nat.le_of_ble_eq_true rfl, Nat.le_of_ble_eq_true rfl⟩) (gm_preV hK hW hC hS hA k6 (by decide) (q := (RX12, TX12, 68)) rfl rfl hf) rfl rfl hl.1 rfl (lv_room (Nat.le_of_ble_eq_true rfl)) dX12_committed_25 ⟨Nat.le_of_ble_eq_true rfl, Nat.le_of_ble_eq_true rfl⟩) hW hS hA (fun r5 M4 H locs hW hS hf => ?_)
    have j41 : ∀ (y7 : Int64) (M8 : Mm) (H : Heap) (locs : List Loc) (ls : Array Slot), lv_has ls 3 [] → Wd D cy A Y M8 H → va_S A s.heap H locs → f_X12_committed_41 Y Kn y7 M8 → W p l e rm_X12_committed s m args below meth c H locs 0 0 (MQ below (va_Ql Kn (BG D cy A Y) A) args s 0 0 A) (F0 m 41 ls [.long y7]) := by
      intro y7 M8 H locs ls hl hW hS hf
      unfold f_X12_committed_41 at hf
      exact gm_lret hx hb hr hlocks hW hS hf dX12_committed_41
    refine lv_if_eq (tgt := 40) hx hb dX12_committed_28 (by decide) (fun c9 => ?_) (fun c9 => ?_)
    · replace hf := hf.1 c9
      refine lv_lconst (v := 0) hx hb dX12_committed_40 (by decide) ?_
      exact j41 _ _ _ _ _ (lv_sub hl [] rfl) hW hS hf
    · replace hf := hf.2 c9
      refine lv_aload_n hx hb dX12_committed_31 rfl (lv_at hl 0 rfl) ?_
      refine lv_iload_n hx hb dX12_committed_32 rfl (lv_at hl 1 rfl) ?_
      refine lv_iload_n hx hb dX12_committed_33 rfl (lv_at hl 2 rfl) ?_
      refine gm_cl (va_runV (As := [.int v1, .int v2]) (rest := []) ⟨hx, hb, hml, hown, hts⟩ (m_X12_noted l D cy tq _ Y _ _ _ _ _) (cwV 2 hts (good_V kw_1737 kw_1738 kw_1873 kw_12 kw_1739) rfl rfl rfl (by decide +kernel) ⟨Nat.le_of_ble_eq_true rfl, Nat.le_of_ble_eq_true rfl⟩) (gm_preV hK hW hC hS hA k6 (by decide) (q := (RX12, TX12, 68)) rfl rfl hf) rfl rfl hl.1 rfl (lv_room (Nat.le_of_ble_eq_true rfl)) dX12_committed_34 ⟨Nat.le_of_ble_eq_true rfl, Nat.le_of_ble_eq_true rfl⟩) hW hS hA (fun r11 M10 H locs hW hS hf => ?_)
      refine lv_goto (tgt := 41) hx hb dX12_committed_37 (by decide) ?_
      exact j41 _ _ _ _ _ (lv_sub hl [] rfl) hW hS hf
  have j24 : ∀ (H : Heap) (locs : List Loc) (ls : Array Slot), lv_has ls 3 [(0, .ref v0), (1, .int v1), (2, .int v2)] → Wd D cy A Y M1 H → va_S A s.heap H locs → f_X12_committed_24 Y v0 v1 v2 Kn M1  → W p l e rm_X12_committed s m args below meth c H locs 0 0 (MQ below (va_Ql Kn (BG D cy A Y) A) args s 0 0 A) (F0 m 24 ls [.ref v0]) := by
    intro  H locs ls hl hW hS hf
    unfold f_X12_committed_24 at hf
    refine lv_iconst (v := 0) hx hb dX12_committed_24 (by decide +kernel) ?_
    exact j25 _ _ _ _ (lv_sub hl [0, 1, 2] rfl) hW hS hf
  refine lv_if_eq (tgt := 24) hx hb dX12_committed_5 (by decide) (fun c12 => ?_) (fun c12 => ?_)
  · replace hf := hf.1 c12
    exact j24  _ _ _ (lv_sub hl [0, 1, 2] rfl) hW hS hf
  · replace hf := hf.2 c12
    refine lv_iload_n hx hb dX12_committed_8 rfl (lv_at hl 2 rfl) ?_
    refine lv_if_lt (tgt := 24) hx hb dX12_committed_9 (by decide) (fun c13 => ?_) (fun c13 => ?_)
    · replace hf := hf.1 c13
      exact j24  _ _ _ (lv_sub hl [0, 1, 2] rfl) hW hS hf
    · replace hf := hf.2 c13
      refine lv_iload_n hx hb dX12_committed_12 rfl (lv_at hl 2 rfl) ?_
      refine lv_aload_n hx hb dX12_committed_13 rfl (lv_at hl 0 rfl) ?_
      obtain ⟨k14, hf⟩ := hf
      refine gm_getI (C := RX12) (T := TX12) (N := 68) (j := 1) hx hb hts inT_12 hown hK hW k14 (by decide) rfl (by decide) rfl (hts _ kw_1317) rfl dX12_committed_14 ?_
      refine lv_icmp_ge (tgt := 24) hx hb dX12_committed_17 (by decide) (fun c15 => ?_) (fun c15 => ?_)
      · replace hf := hf.1 c15
        exact j24  _ _ _ (lv_sub hl [0, 1, 2] rfl) hW hS hf
      · replace hf := hf.2 c15
        refine lv_iconst (v := 1) hx hb dX12_committed_20 (by decide +kernel) ?_
        refine lv_goto (tgt := 25) hx hb dX12_committed_21 (by decide) ?_
        exact j25 _ _ _ _ (lv_sub hl [0, 1, 2] rfl) hW hS hf

abbrev rm_X12_group : Room := { frames := 3, cells := 0, slots := 0, locals := 101 }
def f_X12_group_175 (Y : Ly) (x10 : Int32) (x11 : Int32) (again105 : Int32 → Int32 → Prop) (y17 : Int32) : Prop :=
  ∀ x18 : Int32, x18 = (2 * x10) + y17 → (∀ x19 : Int32, x19 = x11 + (-1) → (again105 x18 x19))
def f_X12_group_160 (Y : Ly) (x10 : Int32) (x11 : Int32) (again105 : Int32 → Int32 → Prop) (y16 : Int32) : Prop :=
  (y16 = 0 → (f_X12_group_175 Y x10 x11 again105 0)) ∧ (¬ (y16 = 0) → (f_X12_group_175 Y x10 x11 again105 1))
def f_X12_group_159 (Y : Ly) (x10 : Int32) (x11 : Int32) (again105 : Int32 → Int32 → Prop) : Prop :=
  f_X12_group_160 Y x10 x11 again105 0
def f_X12_group_155 (Y : Ly) (x10 : Int32) (x11 : Int32) (again105 : Int32 → Int32 → Prop) : Prop :=
  f_X12_group_160 Y x10 x11 again105 1
def L_X12_group_105 (Y : Ly) (v0 : Nat) (v1 : Int32) (v2 : Int32) (Kn : Int32 → Mm → Prop) (M4 : Mm) (x10 : Int32) (x11 : Int32) (again105 : Int32 → Int32 → Prop) : Prop :=
  (x11 < 0 → (Kn x10 M4)) ∧ (¬ (x11 < 0) → (∃ b13 : Nat, mR M4 v0 37 = some b13 ∧ (yK Y b13 = 103 ∧ (vp_in ((8 * v1) + x11) (yN Y b13) ∧ (((mI M4 b13 ((8 * v1) + x11).toNatClampNeg) = 0 → (f_X12_group_159 Y x10 x11 again105)) ∧ (¬ ((mI M4 b13 ((8 * v1) + x11).toNatClampNeg) = 0) → ((v2 = 2 → (f_X12_group_155 Y x10 x11 again105)) ∧ (¬ (v2 = 2) → (∃ b23 : Nat, mR M4 v0 34 = some b23 ∧ (yK Y b23 = 101 ∧ (vp_in v1 (yN Y b23) ∧ (((mI M4 b23 v1.toNatClampNeg) = 2 → (f_X12_group_155 Y x10 x11 again105)) ∧ (¬ ((mI M4 b23 v1.toNatClampNeg) = 2) → (∃ b27 : Nat, mR M4 v0 38 = some b27 ∧ (yK Y b27 = 103 ∧ (vp_in ((8 * v1) + x11) (yN Y b27) ∧ (((mI M4 b27 ((8 * v1) + x11).toNatClampNeg) = 0 → (f_X12_group_159 Y x10 x11 again105)) ∧ (¬ ((mI M4 b27 ((8 * v1) + x11).toNatClampNeg) = 0) → (f_X12_group_155 Y x10 x11 again105)))))))))))))))))))
def f_X12_group_98 (Y : Ly) (Kn : Int32 → Mm → Prop) (M4 : Mm) (y34 : Int32) : Prop :=
  Kn y34 M4
def f_X12_group_97 (Y : Ly) (Kn : Int32 → Mm → Prop) (M4 : Mm) : Prop :=
  f_X12_group_98 Y Kn M4 0
def f_X12_group_54 (Y : Ly) (Kn : Int32 → Mm → Prop) (M4 : Mm) (y43 : Int32) : Prop :=
  Kn y43 M4
def f_X12_group_22 (Y : Ly) (v0 : Nat) (v1 : Int32) (v2 : Int32) (Kn : Int32 → Mm → Prop) (M1 : Mm) (y3 : Int32) : Prop :=
  yK Y v0 = 12 ∧ (f_X12_goes Y v0 y3 M1 (fun r5 M4 => ((¬ r5 = 0 → ((2 ≤ v2 → ((¬ v2 = 4 → (∃ n, LOOP2 (L_X12_group_105 Y v0 v1 v2 Kn M4) n 0 7)) ∧ (v2 = 4 → (∃ b31 : Nat, mR M4 v0 34 = some b31 ∧ (yK Y b31 = 101 ∧ (vp_in v1 (yN Y b31) ∧ ((¬ (mI M4 b31 v1.toNatClampNeg) = 1 → (f_X12_group_97 Y Kn M4)) ∧ ((mI M4 b31 v1.toNatClampNeg) = 1 → (∃ b36 : Nat, mR M4 v0 36 = some b36 ∧ (yK Y b36 = 101 ∧ (vp_in v1 (yN Y b36) ∧ (((mI M4 b36 v1.toNatClampNeg) ≤ (mI M4 v0 4) → (f_X12_group_97 Y Kn M4)) ∧ (¬ ((mI M4 b36 v1.toNatClampNeg) ≤ (mI M4 v0 4)) → (∃ b40 : Nat, mR M4 v0 36 = some b40 ∧ (yK Y b40 = 101 ∧ (vp_in v1 (yN Y b40) ∧ (f_X12_group_98 Y Kn M4 ((mI M4 b40 v1.toNatClampNeg) - (mI M4 v0 4))))))))))))))))))) ∧ (¬ (2 ≤ v2) → ((¬ v2 = 0 → (∃ b45 : Nat, mR M4 v0 34 = some b45 ∧ (yK Y b45 = 101 ∧ (vp_in v1 (yN Y b45) ∧ (f_X12_group_54 Y Kn M4 (mI M4 b45 v1.toNatClampNeg)))))) ∧ (v2 = 0 → (∃ b48 : Nat, mR M4 v0 35 = some b48 ∧ (yK Y b48 = 101 ∧ (vp_in v1 (yN Y b48) ∧ (f_X12_group_54 Y Kn M4 (mI M4 b48 v1.toNatClampNeg)))))))))) ∧ (r5 = 0 → (Kn 0 M4)))))
def f_X12_group_21 (Y : Ly) (v0 : Nat) (v1 : Int32) (v2 : Int32) (Kn : Int32 → Mm → Prop) (M1 : Mm) : Prop :=
  f_X12_group_22 Y v0 v1 v2 Kn M1 0
def f_X12_group (Y : Ly) (v0 : Nat) (v1 : Int32) (v2 : Int32) (M : Mm) (Kn : Int32 → Mm → Prop) : Prop :=
  f_X12_isOne Y v1 M (fun r2 M1 => ((r2 = 0 → (f_X12_group_21 Y v0 v1 v2 Kn M1)) ∧ (¬ (r2 = 0) → ((v2 < 0 → (f_X12_group_21 Y v0 v1 v2 Kn M1)) ∧ (¬ (v2 < 0) → ((4 < v2 → (f_X12_group_21 Y v0 v1 v2 Kn M1)) ∧ (¬ (4 < v2) → (f_X12_group_22 Y v0 v1 v2 Kn M1 1))))))))
set_option maxHeartbeats 4000000 in
set_option maxRecDepth 100000 in
theorem m_X12_group (l : Launch) (D : va_G) (cy : Cy) (tq sz : Nat) (Y : Ly) (v0 : Nat) (v1 : Int32) (v2 : Int32) (M : Mm) (Kn : Int32 → Mm → Prop) : Met l yX12_group (Cond.code yX12_group cX12_group 6 (some .int) :: TT) rm_X12_group (PcG D cy tq [.ref v0, .int v1, .int v2] sz Y M (f_X12_group Y v0 v1 v2 M Kn)) (va_Qi Kn (BG D cy (Am Y sz) Y) (Am Y sz)) 0 0 (Am Y sz) := by
  refine Met.ofW (cc := cX12_group) (maxL := 6) (ret := (some .int)) (by decide) rfl ?_
  intro p e s m args below meth c s₁ B hml hv
  obtain ⟨hargs, hsz, hW, hK, hC, hf⟩ := hv
  subst hsz
  have hx := B.exec
  have hb := B.bytes
  have hr := B.returns
  have hts : ∀ w ∈ TT, w.before args s = true := fun w h => atoms_spec (ws := Cond.code yX12_group cX12_group 6 (some .int) :: TT) B.pre w (List.mem_cons_of_mem _ h)
  have hown : s.vm.findClass RX12 = some m.cls := findClass_of_methodNamed B.named
  have hlocks := B.notSynchronized
  replace hW := Wd_self (sz := s.heap.size) hW
  generalize hAe : Am Y s.heap.size = A at hW hC ⊢
  have hA : ∀ q : Nat, s.heap.size ≤ q → A q := fun q h => by rw [← hAe]; exact Or.inr h
  clear hAe
  have hS : va_S A s.heap s.heap [] := va_S.rf
  obtain ⟨ls, hE, hl⟩ := gm_entry m [.ref v0, .int v1, .int v2] (n := 6) hargs (Nat.le_of_ble_eq_true rfl)
  rw [hE]
  have hl : lv_has ls 6 [(0, .ref v0), (1, .int v1), (2, .int v2)] := hl
  show W p l e rm_X12_group s m args below meth c s.heap [] 0 0 (MQ below (va_Qi Kn (BG D cy A Y) A) args s 0 0 A) (F0 m 0 ls [])
  unfold f_X12_group at hf
  refine lv_aload_n hx hb dX12_group_0 rfl (lv_at hl 0 rfl) ?_
  refine lv_iload_n hx hb dX12_group_1 rfl (lv_at hl 1 rfl) ?_
  refine gm_ci (va_runS (As := [.int v1]) (rest := [.ref v0]) ⟨hx, hb, hml, hown, hts⟩ (m_X12_isOne l D cy tq _ Y _ _ _) (va_cwS 1 hts (good_S kw_1696 kw_1697 kw_12 kw_1698) rfl rfl rfl (by decide +kernel) ⟨Nat.le_of_ble_eq_true rfl, Nat.le_of_ble_eq_true rfl⟩) (gm_preS hK hW hC hS hA hf) rfl rfl hl.1 rfl (lv_room (Nat.le_of_ble_eq_true rfl)) dX12_group_2 ⟨Nat.le_of_ble_eq_true rfl, Nat.le_of_ble_eq_true rfl⟩) hW hS hA (fun r2 M1 H locs hW hS hf => ?_)
  have j22 : ∀ (y3 : Int32) (H : Heap) (locs : List Loc) (ls : Array Slot), lv_has ls 6 [(0, .ref v0), (1, .int v1), (2, .int v2)] → Wd D cy A Y M1 H → va_S A s.heap H locs → f_X12_group_22 Y v0 v1 v2 Kn M1 y3 → W p l e rm_X12_group s m args below meth c H locs 0 0 (MQ below (va_Qi Kn (BG D cy A Y) A) args s 0 0 A) (F0 m 22 ls [.int y3, .ref v0]) := by
    intro y3 H locs ls hl hW hS hf
    unfold f_X12_group_22 at hf
    obtain ⟨k6, hf⟩ := hf
    refine gm_ci (va_runV (As := [.int y3]) (rest := []) ⟨hx, hb, hml, hown, hts⟩ (m_X12_goes l D cy tq _ Y _ _ _ _) (cwV 1 hts (good_V kw_1564 kw_1565 kw_1838 kw_12 kw_1566) rfl rfl rfl (by decide +kernel) ⟨Nat.le_of_ble_eq_true rfl, Nat.le_of_ble_eq_true rfl⟩) (gm_preV hK hW hC hS hA k6 (by decide) (q := (RX12, TX12, 68)) rfl rfl hf) rfl rfl hl.1 rfl (lv_room (Nat.le_of_ble_eq_true rfl)) dX12_group_22 ⟨Nat.le_of_ble_eq_true rfl, Nat.le_of_ble_eq_true rfl⟩) hW hS hA (fun r5 M4 H locs hW hS hf => ?_)
    refine lv_if_ne (tgt := 30) hx hb dX12_group_25 (by decide) (fun c7 => ?_) (fun c7 => ?_)
    · replace hf := hf.1 c7
      refine lv_iload_n hx hb dX12_group_30 rfl (lv_at hl 2 rfl) ?_
      refine lv_iconst (v := 2) hx hb dX12_group_31 (by decide +kernel) ?_
      refine lv_icmp_ge (tgt := 55) hx hb dX12_group_32 (by decide) (fun c8 => ?_) (fun c8 => ?_)
      · replace hf := hf.1 c8
        refine lv_iload_n hx hb dX12_group_55 rfl (lv_at hl 2 rfl) ?_
        refine lv_iconst (v := 4) hx hb dX12_group_56 (by decide +kernel) ?_
        refine lv_icmp_ne (tgt := 99) hx hb dX12_group_57 (by decide) (fun c9 => ?_) (fun c9 => ?_)
        · replace hf := hf.1 c9
          refine lv_iconst (v := 0) hx hb dX12_group_99 (by decide +kernel) ?_
          refine lv_istore_n (lv' := [(3, .int 0), (0, .ref v0), (1, .int v1), (2, .int v2)]) hx hb dX12_group_100 rfl hl (by decide) rfl (fun ls hl => ?_)
          refine lv_bipush (v := 7) hx hb dX12_group_101 (by decide +kernel) ?_
          refine lv_istore (lv' := [(4, .int 7), (3, .int 0), (0, .ref v0), (1, .int v1), (2, .int v2)]) hx hb dX12_group_103 hl (by decide) rfl (fun ls hl => ?_)
          obtain ⟨n105, hf⟩ := hf
          have lp105 : ∀ (n105 : Nat) (x10 : Int32) (x11 : Int32) (H : Heap) (locs : List Loc) (ls : Array Slot), lv_has ls 6 [(0, .ref v0), (1, .int v1), (2, .int v2), (3, .int x10), (4, .int x11)] → Wd D cy A Y M4 H → va_S A s.heap H locs → LOOP2 (L_X12_group_105 Y v0 v1 v2 Kn M4) n105 x10 x11 → W p l e rm_X12_group s m args below meth c H locs 0 0 (MQ below (va_Qi Kn (BG D cy A Y) A) args s 0 0 A) (F0 m 105 ls []) := by
            intro n105
            induction n105 with
            | zero => intro x10 x11 H locs ls hl hW hS hf; exact hf.elim
            | succ n105 ih105 =>
              intro x10 x11 H locs ls hl hW hS hf
              replace hf : L_X12_group_105 Y v0 v1 v2 Kn M4 x10 x11 (LOOP2 (L_X12_group_105 Y v0 v1 v2 Kn M4) n105) := hf
              unfold L_X12_group_105 at hf
              refine lv_iload hx hb dX12_group_105 (lv_at hl 4 rfl) ?_
              refine lv_if_lt (tgt := 183) hx hb dX12_group_107 (by decide) (fun c12 => ?_) (fun c12 => ?_)
              · replace hf := hf.1 c12
                refine lv_iload_n hx hb dX12_group_183 rfl (lv_at hl 3 rfl) ?_
                exact gm_iret hx hb hr hlocks hW hS hf dX12_group_184
              · replace hf := hf.2 c12
                refine lv_aload_n hx hb dX12_group_110 rfl (lv_at hl 0 rfl) ?_
                obtain ⟨b13, hb13, hf⟩ := hf
                refine gm_getR (C := RX12) (T := TX12) (N := 68) (j := 37) hx hb hts inT_12 hown hK hW k6 (by decide) rfl (by decide) rfl (hts _ kw_1353) rfl dX12_group_111 hb13 ?_
                refine lv_bipush (v := 8) hx hb dX12_group_114 (by decide +kernel) ?_
                refine lv_iload_n hx hb dX12_group_116 rfl (lv_at hl 1 rfl) ?_
                refine lv_imul hx hb dX12_group_117 ?_
                refine lv_iload hx hb dX12_group_118 (lv_at hl 4 rfl) ?_
                refine lv_iadd hx hb dX12_group_120 ?_
                obtain ⟨k14, hf⟩ := hf
                obtain ⟨h15, hf⟩ := hf
                refine gm_zald hx hb hK hW k14 h15 dX12_group_121 ?_
                have j160 : ∀ (y16 : Int32) (H : Heap) (locs : List Loc) (ls : Array Slot), lv_has ls 6 [(0, .ref v0), (1, .int v1), (2, .int v2), (3, .int x10), (4, .int x11)] → Wd D cy A Y M4 H → va_S A s.heap H locs → f_X12_group_160 Y x10 x11 (LOOP2 (L_X12_group_105 Y v0 v1 v2 Kn M4) n105) y16 → W p l e rm_X12_group s m args below meth c H locs 0 0 (MQ below (va_Qi Kn (BG D cy A Y) A) args s 0 0 A) (F0 m 160 ls [.int y16]) := by
                  intro y16 H locs ls hl hW hS hf
                  unfold f_X12_group_160 at hf
                  refine lv_istore (lv' := [(5, .int y16), (0, .ref v0), (1, .int v1), (2, .int v2), (3, .int x10), (4, .int x11)]) hx hb dX12_group_160 hl (by decide) rfl (fun ls hl => ?_)
                  refine lv_iconst (v := 2) hx hb dX12_group_162 (by decide +kernel) ?_
                  refine lv_iload_n hx hb dX12_group_163 rfl (lv_at hl 4 rfl) ?_
                  refine lv_imul hx hb dX12_group_164 ?_
                  refine lv_iload hx hb dX12_group_165 (lv_at hl 0 rfl) ?_
                  have j175 : ∀ (y17 : Int32) (H : Heap) (locs : List Loc) (ls : Array Slot), lv_has ls 6 [(0, .ref v0), (1, .int v1), (2, .int v2), (4, .int x11)] → Wd D cy A Y M4 H → va_S A s.heap H locs → f_X12_group_175 Y x10 x11 (LOOP2 (L_X12_group_105 Y v0 v1 v2 Kn M4) n105) y17 → W p l e rm_X12_group s m args below meth c H locs 0 0 (MQ below (va_Qi Kn (BG D cy A Y) A) args s 0 0 A) (F0 m 175 ls [.int y17, .int (2 * x10)]) := by
                    intro y17 H locs ls hl hW hS hf
                    unfold f_X12_group_175 at hf
                    refine lv_iadd hx hb dX12_group_175 ?_
                    refine lv_topi (fun x18 ex18 => ?_)
                    replace hf := hf x18 ex18
                    refine lv_istore_n (lv' := [(3, .int x18), (0, .ref v0), (1, .int v1), (2, .int v2), (4, .int x11)]) hx hb dX12_group_176 rfl hl (by decide) rfl (fun ls hl => ?_)
                    obtain ⟨x19, ex19⟩ : ∃ y : Int32, y = x11 + (-1) := ⟨_, rfl⟩
                    replace hf := hf x19 ex19
                    refine lv_iinc (v := x19) (lv' := [(4, .int x19), (3, .int x18), (0, .ref v0), (1, .int v1), (2, .int v2)]) hx hb dX12_group_177 hl (k := 4) rfl (by rw [ex19]; rfl) (by decide) rfl (fun ls hl => ?_)
                    refine lv_goto (tgt := 105) hx hb dX12_group_180 (by decide) ?_
                    exact ih105 _ _ _ _ _ (lv_sub hl [2, 3, 4, 1, 0] rfl) hW hS hf
                  refine lv_if_eq (tgt := 174) hx hb dX12_group_167 (by decide) (fun c20 => ?_) (fun c20 => ?_)
                  · replace hf := hf.1 c20
                    refine lv_iconst (v := 0) hx hb dX12_group_174 (by decide +kernel) ?_
                    exact j175 _ _ _ _ (lv_sub hl [1, 2, 3, 5] rfl) hW hS hf
                  · replace hf := hf.2 c20
                    refine lv_iconst (v := 1) hx hb dX12_group_170 (by decide +kernel) ?_
                    refine lv_goto (tgt := 175) hx hb dX12_group_171 (by decide) ?_
                    exact j175 _ _ _ _ (lv_sub hl [1, 2, 3, 5] rfl) hW hS hf
                have j159 : ∀ (H : Heap) (locs : List Loc) (ls : Array Slot), lv_has ls 6 [(0, .ref v0), (1, .int v1), (2, .int v2), (3, .int x10), (4, .int x11)] → Wd D cy A Y M4 H → va_S A s.heap H locs → f_X12_group_159 Y x10 x11 (LOOP2 (L_X12_group_105 Y v0 v1 v2 Kn M4) n105)  → W p l e rm_X12_group s m args below meth c H locs 0 0 (MQ below (va_Qi Kn (BG D cy A Y) A) args s 0 0 A) (F0 m 159 ls []) := by
                  intro  H locs ls hl hW hS hf
                  unfold f_X12_group_159 at hf
                  refine lv_iconst (v := 0) hx hb dX12_group_159 (by decide +kernel) ?_
                  exact j160 _ _ _ _ (lv_sub hl [0, 1, 2, 3, 4] rfl) hW hS hf
                refine lv_if_eq (tgt := 159) hx hb dX12_group_122 (by decide) (fun c21 => ?_) (fun c21 => ?_)
                · replace hf := hf.1 c21
                  exact j159  _ _ _ (lv_sub hl [0, 1, 2, 3, 4] rfl) hW hS hf
                · replace hf := hf.2 c21
                  refine lv_iload_n hx hb dX12_group_125 rfl (lv_at hl 2 rfl) ?_
                  refine lv_iconst (v := 2) hx hb dX12_group_126 (by decide +kernel) ?_
                  have j155 : ∀ (H : Heap) (locs : List Loc) (ls : Array Slot), lv_has ls 6 [(0, .ref v0), (1, .int v1), (2, .int v2), (3, .int x10), (4, .int x11)] → Wd D cy A Y M4 H → va_S A s.heap H locs → f_X12_group_155 Y x10 x11 (LOOP2 (L_X12_group_105 Y v0 v1 v2 Kn M4) n105)  → W p l e rm_X12_group s m args below meth c H locs 0 0 (MQ below (va_Qi Kn (BG D cy A Y) A) args s 0 0 A) (F0 m 155 ls []) := by
                    intro  H locs ls hl hW hS hf
                    unfold f_X12_group_155 at hf
                    refine lv_iconst (v := 1) hx hb dX12_group_155 (by decide +kernel) ?_
                    refine lv_goto (tgt := 160) hx hb dX12_group_156 (by decide) ?_
                    exact j160 _ _ _ _ (lv_sub hl [0, 1, 2, 3, 4] rfl) hW hS hf
                  refine lv_icmp_eq (tgt := 155) hx hb dX12_group_127 (by decide) (fun c22 => ?_) (fun c22 => ?_)
                  · replace hf := hf.1 c22
                    exact j155  _ _ _ (lv_sub hl [0, 1, 2, 3, 4] rfl) hW hS hf
                  · replace hf := hf.2 c22
                    refine lv_aload_n hx hb dX12_group_130 rfl (lv_at hl 0 rfl) ?_
                    obtain ⟨b23, hb23, hf⟩ := hf
                    refine gm_getR (C := RX12) (T := TX12) (N := 68) (j := 34) hx hb hts inT_12 hown hK hW k6 (by decide) rfl (by decide) rfl (hts _ kw_1350) rfl dX12_group_131 hb23 ?_
                    refine lv_iload_n hx hb dX12_group_134 rfl (lv_at hl 1 rfl) ?_
                    obtain ⟨k24, hf⟩ := hf
                    obtain ⟨h25, hf⟩ := hf
                    refine gm_iald hx hb hK hW k24 h25 dX12_group_135 ?_
                    refine lv_iconst (v := 2) hx hb dX12_group_136 (by decide +kernel) ?_
                    refine lv_icmp_eq (tgt := 155) hx hb dX12_group_137 (by decide) (fun c26 => ?_) (fun c26 => ?_)
                    · replace hf := hf.1 c26
                      exact j155  _ _ _ (lv_sub hl [0, 1, 2, 3, 4] rfl) hW hS hf
                    · replace hf := hf.2 c26
                      refine lv_aload_n hx hb dX12_group_140 rfl (lv_at hl 0 rfl) ?_
                      obtain ⟨b27, hb27, hf⟩ := hf
                      refine gm_getR (C := RX12) (T := TX12) (N := 68) (j := 38) hx hb hts inT_12 hown hK hW k6 (by decide) rfl (by decide) rfl (hts _ kw_1354) rfl dX12_group_141 hb27 ?_
                      refine lv_bipush (v := 8) hx hb dX12_group_144 (by decide +kernel) ?_
                      refine lv_iload_n hx hb dX12_group_146 rfl (lv_at hl 1 rfl) ?_
                      refine lv_imul hx hb dX12_group_147 ?_
                      refine lv_iload hx hb dX12_group_148 (lv_at hl 4 rfl) ?_
                      refine lv_iadd hx hb dX12_group_150 ?_
                      obtain ⟨k28, hf⟩ := hf
                      obtain ⟨h29, hf⟩ := hf
                      refine gm_zald hx hb hK hW k28 h29 dX12_group_151 ?_
                      refine lv_if_eq (tgt := 159) hx hb dX12_group_152 (by decide) (fun c30 => ?_) (fun c30 => ?_)
                      · replace hf := hf.1 c30
                        exact j159  _ _ _ (lv_sub hl [0, 1, 2, 3, 4] rfl) hW hS hf
                      · replace hf := hf.2 c30
                        exact j155  _ _ _ (lv_sub hl [0, 1, 2, 3, 4] rfl) hW hS hf
          exact lp105 n105 _ _ _ _ _ (lv_sub hl [2, 3, 4, 1, 0] rfl) hW hS hf
        · replace hf := hf.2 c9
          refine lv_aload_n hx hb dX12_group_60 rfl (lv_at hl 0 rfl) ?_
          obtain ⟨b31, hb31, hf⟩ := hf
          refine gm_getR (C := RX12) (T := TX12) (N := 68) (j := 34) hx hb hts inT_12 hown hK hW k6 (by decide) rfl (by decide) rfl (hts _ kw_1350) rfl dX12_group_61 hb31 ?_
          refine lv_iload_n hx hb dX12_group_64 rfl (lv_at hl 1 rfl) ?_
          obtain ⟨k32, hf⟩ := hf
          obtain ⟨h33, hf⟩ := hf
          refine gm_iald hx hb hK hW k32 h33 dX12_group_65 ?_
          refine lv_iconst (v := 1) hx hb dX12_group_66 (by decide +kernel) ?_
          have j98 : ∀ (y34 : Int32) (H : Heap) (locs : List Loc) (ls : Array Slot), lv_has ls 6 [] → Wd D cy A Y M4 H → va_S A s.heap H locs → f_X12_group_98 Y Kn M4 y34 → W p l e rm_X12_group s m args below meth c H locs 0 0 (MQ below (va_Qi Kn (BG D cy A Y) A) args s 0 0 A) (F0 m 98 ls [.int y34]) := by
            intro y34 H locs ls hl hW hS hf
            unfold f_X12_group_98 at hf
            exact gm_iret hx hb hr hlocks hW hS hf dX12_group_98
          have j97 : ∀ (H : Heap) (locs : List Loc) (ls : Array Slot), lv_has ls 6 [] → Wd D cy A Y M4 H → va_S A s.heap H locs → f_X12_group_97 Y Kn M4  → W p l e rm_X12_group s m args below meth c H locs 0 0 (MQ below (va_Qi Kn (BG D cy A Y) A) args s 0 0 A) (F0 m 97 ls []) := by
            intro  H locs ls hl hW hS hf
            unfold f_X12_group_97 at hf
            refine lv_iconst (v := 0) hx hb dX12_group_97 (by decide +kernel) ?_
            exact j98 _ _ _ _ (lv_sub hl [] rfl) hW hS hf
          refine lv_icmp_ne (tgt := 97) hx hb dX12_group_67 (by decide) (fun c35 => ?_) (fun c35 => ?_)
          · replace hf := hf.1 c35
            exact j97  _ _ _ (lv_sub hl [] rfl) hW hS hf
          · replace hf := hf.2 c35
            refine lv_aload_n hx hb dX12_group_70 rfl (lv_at hl 0 rfl) ?_
            obtain ⟨b36, hb36, hf⟩ := hf
            refine gm_getR (C := RX12) (T := TX12) (N := 68) (j := 36) hx hb hts inT_12 hown hK hW k6 (by decide) rfl (by decide) rfl (hts _ kw_1352) rfl dX12_group_71 hb36 ?_
            refine lv_iload_n hx hb dX12_group_74 rfl (lv_at hl 1 rfl) ?_
            obtain ⟨k37, hf⟩ := hf
            obtain ⟨h38, hf⟩ := hf
            refine gm_iald hx hb hK hW k37 h38 dX12_group_75 ?_
            refine lv_aload_n hx hb dX12_group_76 rfl (lv_at hl 0 rfl) ?_
            refine gm_getI (C := RX12) (T := TX12) (N := 68) (j := 4) hx hb hts inT_12 hown hK hW k6 (by decide) rfl (by decide) rfl (hts _ kw_1320) rfl dX12_group_77 ?_
            refine lv_icmp_le (tgt := 97) hx hb dX12_group_80 (by decide) (fun c39 => ?_) (fun c39 => ?_)
            · replace hf := hf.1 c39
              exact j97  _ _ _ (lv_sub hl [] rfl) hW hS hf
            · replace hf := hf.2 c39
              refine lv_aload_n hx hb dX12_group_83 rfl (lv_at hl 0 rfl) ?_
              obtain ⟨b40, hb40, hf⟩ := hf
              refine gm_getR (C := RX12) (T := TX12) (N := 68) (j := 36) hx hb hts inT_12 hown hK hW k6 (by decide) rfl (by decide) rfl (hts _ kw_1352) rfl dX12_group_84 hb40 ?_
              refine lv_iload_n hx hb dX12_group_87 rfl (lv_at hl 1 rfl) ?_
              obtain ⟨k41, hf⟩ := hf
              obtain ⟨h42, hf⟩ := hf
              refine gm_iald hx hb hK hW k41 h42 dX12_group_88 ?_
              refine lv_aload_n hx hb dX12_group_89 rfl (lv_at hl 0 rfl) ?_
              refine gm_getI (C := RX12) (T := TX12) (N := 68) (j := 4) hx hb hts inT_12 hown hK hW k6 (by decide) rfl (by decide) rfl (hts _ kw_1320) rfl dX12_group_90 ?_
              refine lv_isub hx hb dX12_group_93 ?_
              refine lv_goto (tgt := 98) hx hb dX12_group_94 (by decide) ?_
              exact j98 _ _ _ _ (lv_sub hl [] rfl) hW hS hf
      · replace hf := hf.2 c8
        refine lv_iload_n hx hb dX12_group_35 rfl (lv_at hl 2 rfl) ?_
        have j54 : ∀ (y43 : Int32) (H : Heap) (locs : List Loc) (ls : Array Slot), lv_has ls 6 [] → Wd D cy A Y M4 H → va_S A s.heap H locs → f_X12_group_54 Y Kn M4 y43 → W p l e rm_X12_group s m args below meth c H locs 0 0 (MQ below (va_Qi Kn (BG D cy A Y) A) args s 0 0 A) (F0 m 54 ls [.int y43]) := by
          intro y43 H locs ls hl hW hS hf
          unfold f_X12_group_54 at hf
          exact gm_iret hx hb hr hlocks hW hS hf dX12_group_54
        refine lv_if_ne (tgt := 48) hx hb dX12_group_36 (by decide) (fun c44 => ?_) (fun c44 => ?_)
        · replace hf := hf.1 c44
          refine lv_aload_n hx hb dX12_group_48 rfl (lv_at hl 0 rfl) ?_
          obtain ⟨b45, hb45, hf⟩ := hf
          refine gm_getR (C := RX12) (T := TX12) (N := 68) (j := 34) hx hb hts inT_12 hown hK hW k6 (by decide) rfl (by decide) rfl (hts _ kw_1350) rfl dX12_group_49 hb45 ?_
          refine lv_iload_n hx hb dX12_group_52 rfl (lv_at hl 1 rfl) ?_
          obtain ⟨k46, hf⟩ := hf
          obtain ⟨h47, hf⟩ := hf
          refine gm_iald hx hb hK hW k46 h47 dX12_group_53 ?_
          exact j54 _ _ _ _ (lv_sub hl [] rfl) hW hS hf
        · replace hf := hf.2 c44
          refine lv_aload_n hx hb dX12_group_39 rfl (lv_at hl 0 rfl) ?_
          obtain ⟨b48, hb48, hf⟩ := hf
          refine gm_getR (C := RX12) (T := TX12) (N := 68) (j := 35) hx hb hts inT_12 hown hK hW k6 (by decide) rfl (by decide) rfl (hts _ kw_1351) rfl dX12_group_40 hb48 ?_
          refine lv_iload_n hx hb dX12_group_43 rfl (lv_at hl 1 rfl) ?_
          obtain ⟨k49, hf⟩ := hf
          obtain ⟨h50, hf⟩ := hf
          refine gm_iald hx hb hK hW k49 h50 dX12_group_44 ?_
          refine lv_goto (tgt := 54) hx hb dX12_group_45 (by decide) ?_
          exact j54 _ _ _ _ (lv_sub hl [] rfl) hW hS hf
    · replace hf := hf.2 c7
      refine lv_iconst (v := 0) hx hb dX12_group_28 (by decide +kernel) ?_
      exact gm_iret hx hb hr hlocks hW hS hf dX12_group_29
  have j21 : ∀ (H : Heap) (locs : List Loc) (ls : Array Slot), lv_has ls 6 [(0, .ref v0), (1, .int v1), (2, .int v2)] → Wd D cy A Y M1 H → va_S A s.heap H locs → f_X12_group_21 Y v0 v1 v2 Kn M1  → W p l e rm_X12_group s m args below meth c H locs 0 0 (MQ below (va_Qi Kn (BG D cy A Y) A) args s 0 0 A) (F0 m 21 ls [.ref v0]) := by
    intro  H locs ls hl hW hS hf
    unfold f_X12_group_21 at hf
    refine lv_iconst (v := 0) hx hb dX12_group_21 (by decide +kernel) ?_
    exact j22 _ _ _ _ (lv_sub hl [0, 1, 2] rfl) hW hS hf
  refine lv_if_eq (tgt := 21) hx hb dX12_group_5 (by decide) (fun c51 => ?_) (fun c51 => ?_)
  · replace hf := hf.1 c51
    exact j21  _ _ _ (lv_sub hl [0, 1, 2] rfl) hW hS hf
  · replace hf := hf.2 c51
    refine lv_iload_n hx hb dX12_group_8 rfl (lv_at hl 2 rfl) ?_
    refine lv_if_lt (tgt := 21) hx hb dX12_group_9 (by decide) (fun c52 => ?_) (fun c52 => ?_)
    · replace hf := hf.1 c52
      exact j21  _ _ _ (lv_sub hl [0, 1, 2] rfl) hW hS hf
    · replace hf := hf.2 c52
      refine lv_iload_n hx hb dX12_group_12 rfl (lv_at hl 2 rfl) ?_
      refine lv_iconst (v := 4) hx hb dX12_group_13 (by decide +kernel) ?_
      refine lv_icmp_gt (tgt := 21) hx hb dX12_group_14 (by decide) (fun c53 => ?_) (fun c53 => ?_)
      · replace hf := hf.1 c53
        exact j21  _ _ _ (lv_sub hl [0, 1, 2] rfl) hW hS hf
      · replace hf := hf.2 c53
        refine lv_iconst (v := 1) hx hb dX12_group_17 (by decide +kernel) ?_
        refine lv_goto (tgt := 22) hx hb dX12_group_18 (by decide) ?_
        exact j22 _ _ _ _ (lv_sub hl [0, 1, 2] rfl) hW hS hf

abbrev rm_X12_share : Room := { frames := 3, cells := 0, slots := 0, locals := 104 }
def f_X12_share_50 (Y : Ly) (Kn : Int32 → Mm → Prop) (M5 : Mm) : Prop :=
  Kn 0 M5
def f_X12_share_86 (Y : Ly) (x18 : Int32) (x19 : Int32) (again62 : Int32 → Int32 → Mm → Prop) (M22 : Mm) (y24 : Int32) : Prop :=
  ∀ x25 : Int32, x25 = (2 * x18) + y24 → (∀ x26 : Int32, x26 = x19 + (-1) → (again62 x25 x26 M22))
def L_X12_share_62 (Y : Ly) (v0 : Nat) (v1 : Int32) (v2 : Int32) (Kn : Int32 → Mm → Prop) (x18 : Int32) (x19 : Int32) (M20 : Mm) (again62 : Int32 → Int32 → Mm → Prop) : Prop :=
  (x19 < 0 → (Kn x18 M20)) ∧ (¬ (x19 < 0) → (f_X12_owner Y v0 v1 x19 M20 (fun r23 M22 => ((¬ r23 = v2 → (f_X12_share_86 Y x18 x19 again62 M22 0)) ∧ (r23 = v2 → (f_X12_share_86 Y x18 x19 again62 M22 1))))))
def f_X12_share_20 (Y : Ly) (v0 : Nat) (v1 : Int32) (v2 : Int32) (Kn : Int32 → Mm → Prop) (y3 : Int32) (M4 : Mm) : Prop :=
  yK Y v0 = 12 ∧ (f_X12_goes Y v0 y3 M4 (fun r6 M5 => ((r6 = 0 → (f_X12_share_50 Y Kn M5)) ∧ (¬ (r6 = 0) → (∃ b9 : Nat, mR M5 v0 34 = some b9 ∧ (yK Y b9 = 101 ∧ (vp_in v1 (yN Y b9) ∧ ((¬ (mI M5 b9 v1.toNatClampNeg) = 2 → (f_X12_share_50 Y Kn M5)) ∧ ((mI M5 b9 v1.toNatClampNeg) = 2 → (∃ b13 : Nat, mR M5 v0 37 = some b13 ∧ (yK Y b13 = 103 ∧ (vp_in ((8 * v1) + v2) (yN Y b13) ∧ ((¬ (mI M5 b13 ((8 * v1) + v2).toNatClampNeg) = 0 → (∀ x17 : Int32, x17 = (mI M5 v0 1) - 1 → (∃ n, LOOP3 (L_X12_share_62 Y v0 v1 v2 Kn) n 0 x17 M5))) ∧ ((mI M5 b13 ((8 * v1) + v2).toNatClampNeg) = 0 → (f_X12_share_50 Y Kn M5)))))))))))))))
def f_X12_share_19 (Y : Ly) (v0 : Nat) (v1 : Int32) (v2 : Int32) (Kn : Int32 → Mm → Prop) (M28 : Mm) : Prop :=
  f_X12_share_20 Y v0 v1 v2 Kn 0 M28
def f_X12_share (Y : Ly) (v0 : Nat) (v1 : Int32) (v2 : Int32) (M : Mm) (Kn : Int32 → Mm → Prop) : Prop :=
  f_X12_isOne Y v1 M (fun r2 M1 => ((r2 = 0 → (f_X12_share_19 Y v0 v1 v2 Kn M1)) ∧ (¬ (r2 = 0) → (f_X12_isOne Y v2 M1 (fun r31 M30 => ((r31 = 0 → (f_X12_share_19 Y v0 v1 v2 Kn M30)) ∧ (¬ (r31 = 0) → (f_X12_share_20 Y v0 v1 v2 Kn 1 M30))))))))
set_option maxHeartbeats 4000000 in
set_option maxRecDepth 100000 in
theorem m_X12_share (l : Launch) (D : va_G) (cy : Cy) (tq sz : Nat) (Y : Ly) (v0 : Nat) (v1 : Int32) (v2 : Int32) (M : Mm) (Kn : Int32 → Mm → Prop) : Met l yX12_share (Cond.code yX12_share cX12_share 5 (some .int) :: TT) rm_X12_share (PcG D cy tq [.ref v0, .int v1, .int v2] sz Y M (f_X12_share Y v0 v1 v2 M Kn)) (va_Qi Kn (BG D cy (Am Y sz) Y) (Am Y sz)) 0 0 (Am Y sz) := by
  refine Met.ofW (cc := cX12_share) (maxL := 5) (ret := (some .int)) (by decide) rfl ?_
  intro p e s m args below meth c s₁ B hml hv
  obtain ⟨hargs, hsz, hW, hK, hC, hf⟩ := hv
  subst hsz
  have hx := B.exec
  have hb := B.bytes
  have hr := B.returns
  have hts : ∀ w ∈ TT, w.before args s = true := fun w h => atoms_spec (ws := Cond.code yX12_share cX12_share 5 (some .int) :: TT) B.pre w (List.mem_cons_of_mem _ h)
  have hown : s.vm.findClass RX12 = some m.cls := findClass_of_methodNamed B.named
  have hlocks := B.notSynchronized
  replace hW := Wd_self (sz := s.heap.size) hW
  generalize hAe : Am Y s.heap.size = A at hW hC ⊢
  have hA : ∀ q : Nat, s.heap.size ≤ q → A q := fun q h => by rw [← hAe]; exact Or.inr h
  clear hAe
  have hS : va_S A s.heap s.heap [] := va_S.rf
  obtain ⟨ls, hE, hl⟩ := gm_entry m [.ref v0, .int v1, .int v2] (n := 5) hargs (Nat.le_of_ble_eq_true rfl)
  rw [hE]
  have hl : lv_has ls 5 [(0, .ref v0), (1, .int v1), (2, .int v2)] := hl
  show W p l e rm_X12_share s m args below meth c s.heap [] 0 0 (MQ below (va_Qi Kn (BG D cy A Y) A) args s 0 0 A) (F0 m 0 ls [])
  unfold f_X12_share at hf
  refine lv_aload_n hx hb dX12_share_0 rfl (lv_at hl 0 rfl) ?_
  refine lv_iload_n hx hb dX12_share_1 rfl (lv_at hl 1 rfl) ?_
  refine gm_ci (va_runS (As := [.int v1]) (rest := [.ref v0]) ⟨hx, hb, hml, hown, hts⟩ (m_X12_isOne l D cy tq _ Y _ _ _) (va_cwS 1 hts (good_S kw_1696 kw_1697 kw_12 kw_1698) rfl rfl rfl (by decide +kernel) ⟨Nat.le_of_ble_eq_true rfl, Nat.le_of_ble_eq_true rfl⟩) (gm_preS hK hW hC hS hA hf) rfl rfl hl.1 rfl (lv_room (Nat.le_of_ble_eq_true rfl)) dX12_share_2 ⟨Nat.le_of_ble_eq_true rfl, Nat.le_of_ble_eq_true rfl⟩) hW hS hA (fun r2 M1 H locs hW hS hf => ?_)
  have j20 : ∀ (y3 : Int32) (M4 : Mm) (H : Heap) (locs : List Loc) (ls : Array Slot), lv_has ls 5 [(0, .ref v0), (1, .int v1), (2, .int v2)] → Wd D cy A Y M4 H → va_S A s.heap H locs → f_X12_share_20 Y v0 v1 v2 Kn y3 M4 → W p l e rm_X12_share s m args below meth c H locs 0 0 (MQ below (va_Qi Kn (BG D cy A Y) A) args s 0 0 A) (F0 m 20 ls [.int y3, .ref v0]) := by
    intro y3 M4 H locs ls hl hW hS hf
    unfold f_X12_share_20 at hf
    obtain ⟨k7, hf⟩ := hf
    refine gm_ci (va_runV (As := [.int y3]) (rest := []) ⟨hx, hb, hml, hown, hts⟩ (m_X12_goes l D cy tq _ Y _ _ _ _) (cwV 1 hts (good_V kw_1564 kw_1565 kw_1838 kw_12 kw_1566) rfl rfl rfl (by decide +kernel) ⟨Nat.le_of_ble_eq_true rfl, Nat.le_of_ble_eq_true rfl⟩) (gm_preV hK hW hC hS hA k7 (by decide) (q := (RX12, TX12, 68)) rfl rfl hf) rfl rfl hl.1 rfl (lv_room (Nat.le_of_ble_eq_true rfl)) dX12_share_20 ⟨Nat.le_of_ble_eq_true rfl, Nat.le_of_ble_eq_true rfl⟩) hW hS hA (fun r6 M5 H locs hW hS hf => ?_)
    have j50 : ∀ (H : Heap) (locs : List Loc) (ls : Array Slot), lv_has ls 5 [] → Wd D cy A Y M5 H → va_S A s.heap H locs → f_X12_share_50 Y Kn M5  → W p l e rm_X12_share s m args below meth c H locs 0 0 (MQ below (va_Qi Kn (BG D cy A Y) A) args s 0 0 A) (F0 m 50 ls []) := by
      intro  H locs ls hl hW hS hf
      unfold f_X12_share_50 at hf
      refine lv_iconst (v := 0) hx hb dX12_share_50 (by decide +kernel) ?_
      exact gm_iret hx hb hr hlocks hW hS hf dX12_share_51
    refine lv_if_eq (tgt := 50) hx hb dX12_share_23 (by decide) (fun c8 => ?_) (fun c8 => ?_)
    · replace hf := hf.1 c8
      exact j50  _ _ _ (lv_sub hl [] rfl) hW hS hf
    · replace hf := hf.2 c8
      refine lv_aload_n hx hb dX12_share_26 rfl (lv_at hl 0 rfl) ?_
      obtain ⟨b9, hb9, hf⟩ := hf
      refine gm_getR (C := RX12) (T := TX12) (N := 68) (j := 34) hx hb hts inT_12 hown hK hW k7 (by decide) rfl (by decide) rfl (hts _ kw_1350) rfl dX12_share_27 hb9 ?_
      refine lv_iload_n hx hb dX12_share_30 rfl (lv_at hl 1 rfl) ?_
      obtain ⟨k10, hf⟩ := hf
      obtain ⟨h11, hf⟩ := hf
      refine gm_iald hx hb hK hW k10 h11 dX12_share_31 ?_
      refine lv_iconst (v := 2) hx hb dX12_share_32 (by decide +kernel) ?_
      refine lv_icmp_ne (tgt := 50) hx hb dX12_share_33 (by decide) (fun c12 => ?_) (fun c12 => ?_)
      · replace hf := hf.1 c12
        exact j50  _ _ _ (lv_sub hl [] rfl) hW hS hf
      · replace hf := hf.2 c12
        refine lv_aload_n hx hb dX12_share_36 rfl (lv_at hl 0 rfl) ?_
        obtain ⟨b13, hb13, hf⟩ := hf
        refine gm_getR (C := RX12) (T := TX12) (N := 68) (j := 37) hx hb hts inT_12 hown hK hW k7 (by decide) rfl (by decide) rfl (hts _ kw_1353) rfl dX12_share_37 hb13 ?_
        refine lv_bipush (v := 8) hx hb dX12_share_40 (by decide +kernel) ?_
        refine lv_iload_n hx hb dX12_share_42 rfl (lv_at hl 1 rfl) ?_
        refine lv_imul hx hb dX12_share_43 ?_
        refine lv_iload_n hx hb dX12_share_44 rfl (lv_at hl 2 rfl) ?_
        refine lv_iadd hx hb dX12_share_45 ?_
        obtain ⟨k14, hf⟩ := hf
        obtain ⟨h15, hf⟩ := hf
        refine gm_zald hx hb hK hW k14 h15 dX12_share_46 ?_
        refine lv_if_ne (tgt := 52) hx hb dX12_share_47 (by decide) (fun c16 => ?_) (fun c16 => ?_)
        · replace hf := hf.1 c16
          refine lv_iconst (v := 0) hx hb dX12_share_52 (by decide +kernel) ?_
          refine lv_istore_n (lv' := [(3, .int 0), (0, .ref v0), (1, .int v1), (2, .int v2)]) hx hb dX12_share_53 rfl hl (by decide) rfl (fun ls hl => ?_)
          refine lv_aload_n hx hb dX12_share_54 rfl (lv_at hl 1 rfl) ?_
          refine gm_getI (C := RX12) (T := TX12) (N := 68) (j := 1) hx hb hts inT_12 hown hK hW k7 (by decide) rfl (by decide) rfl (hts _ kw_1317) rfl dX12_share_55 ?_
          refine lv_iconst (v := 1) hx hb dX12_share_58 (by decide +kernel) ?_
          refine lv_isub hx hb dX12_share_59 ?_
          refine lv_topi (fun x17 ex17 => ?_)
          replace hf := hf x17 ex17
          refine lv_istore (lv' := [(4, .int x17), (3, .int 0), (0, .ref v0), (1, .int v1), (2, .int v2)]) hx hb dX12_share_60 hl (by decide) rfl (fun ls hl => ?_)
          obtain ⟨n62, hf⟩ := hf
          have lp62 : ∀ (n62 : Nat) (x18 : Int32) (x19 : Int32) (M20 : Mm) (H : Heap) (locs : List Loc) (ls : Array Slot), lv_has ls 5 [(0, .ref v0), (1, .int v1), (2, .int v2), (3, .int x18), (4, .int x19)] → Wd D cy A Y M20 H → va_S A s.heap H locs → LOOP3 (L_X12_share_62 Y v0 v1 v2 Kn) n62 x18 x19 M20 → W p l e rm_X12_share s m args below meth c H locs 0 0 (MQ below (va_Qi Kn (BG D cy A Y) A) args s 0 0 A) (F0 m 62 ls []) := by
            intro n62
            induction n62 with
            | zero => intro x18 x19 M20 H locs ls hl hW hS hf; exact hf.elim
            | succ n62 ih62 =>
              intro x18 x19 M20 H locs ls hl hW hS hf
              replace hf : L_X12_share_62 Y v0 v1 v2 Kn x18 x19 M20 (LOOP3 (L_X12_share_62 Y v0 v1 v2 Kn) n62) := hf
              unfold L_X12_share_62 at hf
              refine lv_iload hx hb dX12_share_62 (lv_at hl 4 rfl) ?_
              refine lv_if_lt (tgt := 94) hx hb dX12_share_64 (by decide) (fun c21 => ?_) (fun c21 => ?_)
              · replace hf := hf.1 c21
                refine lv_iload_n hx hb dX12_share_94 rfl (lv_at hl 3 rfl) ?_
                exact gm_iret hx hb hr hlocks hW hS hf dX12_share_95
              · replace hf := hf.2 c21
                refine lv_iconst (v := 2) hx hb dX12_share_67 (by decide +kernel) ?_
                refine lv_iload_n hx hb dX12_share_68 rfl (lv_at hl 3 rfl) ?_
                refine lv_imul hx hb dX12_share_69 ?_
                refine lv_aload_n hx hb dX12_share_70 rfl (lv_at hl 0 rfl) ?_
                refine lv_iload_n hx hb dX12_share_71 rfl (lv_at hl 1 rfl) ?_
                refine lv_iload hx hb dX12_share_72 (lv_at hl 4 rfl) ?_
                refine gm_ci (va_runV (As := [.int v1, .int x19]) (rest := [.int (2 * x18)]) ⟨hx, hb, hml, hown, hts⟩ (m_X12_owner l D cy tq _ Y _ _ _ _ _) (cwV 2 hts (good_V kw_1730 kw_1731 kw_1872 kw_12 kw_1732) rfl rfl rfl (by decide +kernel) ⟨Nat.le_of_ble_eq_true rfl, Nat.le_of_ble_eq_true rfl⟩) (gm_preV hK hW hC hS hA k7 (by decide) (q := (RX12, TX12, 68)) rfl rfl hf) rfl rfl hl.1 rfl (lv_room (Nat.le_of_ble_eq_true rfl)) dX12_share_74 ⟨Nat.le_of_ble_eq_true rfl, Nat.le_of_ble_eq_true rfl⟩) hW hS hA (fun r23 M22 H locs hW hS hf => ?_)
                refine lv_iload_n hx hb dX12_share_77 rfl (lv_at hl 2 rfl) ?_
                have j86 : ∀ (y24 : Int32) (H : Heap) (locs : List Loc) (ls : Array Slot), lv_has ls 5 [(0, .ref v0), (1, .int v1), (2, .int v2), (4, .int x19)] → Wd D cy A Y M22 H → va_S A s.heap H locs → f_X12_share_86 Y x18 x19 (LOOP3 (L_X12_share_62 Y v0 v1 v2 Kn) n62) M22 y24 → W p l e rm_X12_share s m args below meth c H locs 0 0 (MQ below (va_Qi Kn (BG D cy A Y) A) args s 0 0 A) (F0 m 86 ls [.int y24, .int (2 * x18)]) := by
                  intro y24 H locs ls hl hW hS hf
                  unfold f_X12_share_86 at hf
                  refine lv_iadd hx hb dX12_share_86 ?_
                  refine lv_topi (fun x25 ex25 => ?_)
                  replace hf := hf x25 ex25
                  refine lv_istore_n (lv' := [(3, .int x25), (0, .ref v0), (1, .int v1), (2, .int v2), (4, .int x19)]) hx hb dX12_share_87 rfl hl (by decide) rfl (fun ls hl => ?_)
                  obtain ⟨x26, ex26⟩ : ∃ y : Int32, y = x19 + (-1) := ⟨_, rfl⟩
                  replace hf := hf x26 ex26
                  refine lv_iinc (v := x26) (lv' := [(4, .int x26), (3, .int x25), (0, .ref v0), (1, .int v1), (2, .int v2)]) hx hb dX12_share_88 hl (k := 4) rfl (by rw [ex26]; rfl) (by decide) rfl (fun ls hl => ?_)
                  refine lv_goto (tgt := 62) hx hb dX12_share_91 (by decide) ?_
                  exact ih62 _ _ _ _ _ _ (lv_sub hl [2, 3, 4, 1, 0] rfl) hW hS hf
                refine lv_icmp_ne (tgt := 85) hx hb dX12_share_78 (by decide) (fun c27 => ?_) (fun c27 => ?_)
                · replace hf := hf.1 c27
                  refine lv_iconst (v := 0) hx hb dX12_share_85 (by decide +kernel) ?_
                  exact j86 _ _ _ _ (lv_sub hl [0, 1, 2, 4] rfl) hW hS hf
                · replace hf := hf.2 c27
                  refine lv_iconst (v := 1) hx hb dX12_share_81 (by decide +kernel) ?_
                  refine lv_goto (tgt := 86) hx hb dX12_share_82 (by decide) ?_
                  exact j86 _ _ _ _ (lv_sub hl [0, 1, 2, 4] rfl) hW hS hf
          exact lp62 n62 _ _ _ _ _ _ (lv_sub hl [2, 3, 4, 1, 0] rfl) hW hS hf
        · replace hf := hf.2 c16
          exact j50  _ _ _ (lv_sub hl [] rfl) hW hS hf
  have j19 : ∀ (M28 : Mm) (H : Heap) (locs : List Loc) (ls : Array Slot), lv_has ls 5 [(0, .ref v0), (1, .int v1), (2, .int v2)] → Wd D cy A Y M28 H → va_S A s.heap H locs → f_X12_share_19 Y v0 v1 v2 Kn M28 → W p l e rm_X12_share s m args below meth c H locs 0 0 (MQ below (va_Qi Kn (BG D cy A Y) A) args s 0 0 A) (F0 m 19 ls [.ref v0]) := by
    intro M28 H locs ls hl hW hS hf
    unfold f_X12_share_19 at hf
    refine lv_iconst (v := 0) hx hb dX12_share_19 (by decide +kernel) ?_
    exact j20 _ _ _ _ _ (lv_sub hl [0, 1, 2] rfl) hW hS hf
  refine lv_if_eq (tgt := 19) hx hb dX12_share_5 (by decide) (fun c29 => ?_) (fun c29 => ?_)
  · replace hf := hf.1 c29
    exact j19 _ _ _ _ (lv_sub hl [0, 1, 2] rfl) hW hS hf
  · replace hf := hf.2 c29
    refine lv_iload_n hx hb dX12_share_8 rfl (lv_at hl 2 rfl) ?_
    refine gm_ci (va_runS (As := [.int v2]) (rest := [.ref v0]) ⟨hx, hb, hml, hown, hts⟩ (m_X12_isOne l D cy tq _ Y _ _ _) (va_cwS 1 hts (good_S kw_1696 kw_1697 kw_12 kw_1698) rfl rfl rfl (by decide +kernel) ⟨Nat.le_of_ble_eq_true rfl, Nat.le_of_ble_eq_true rfl⟩) (gm_preS hK hW hC hS hA hf) rfl rfl hl.1 rfl (lv_room (Nat.le_of_ble_eq_true rfl)) dX12_share_9 ⟨Nat.le_of_ble_eq_true rfl, Nat.le_of_ble_eq_true rfl⟩) hW hS hA (fun r31 M30 H locs hW hS hf => ?_)
    refine lv_if_eq (tgt := 19) hx hb dX12_share_12 (by decide) (fun c32 => ?_) (fun c32 => ?_)
    · replace hf := hf.1 c32
      exact j19 _ _ _ _ (lv_sub hl [0, 1, 2] rfl) hW hS hf
    · replace hf := hf.2 c32
      refine lv_iconst (v := 1) hx hb dX12_share_15 (by decide +kernel) ?_
      refine lv_goto (tgt := 20) hx hb dX12_share_16 (by decide) ?_
      exact j20 _ _ _ _ _ (lv_sub hl [0, 1, 2] rfl) hW hS hf

abbrev rm_X12_tick : Room := { frames := 7, cells := 0, slots := 0, locals := 201 }
def f_X12_tick_77 (Y : Ly) (v0 : Nat) (v1 : Int32) (Kn : Mm → Prop) (M5 : Mm) : Prop :=
  yK Y v0 = 12 ∧ (f_X12_mayBeDone Y v0 v1 M5 (fun M6 => (Kn M6)))
def f_X12_tick_68 (Y : Ly) (v0 : Nat) (v1 : Int32) (Kn : Mm → Prop) (x2 : Int32) (M4 : Mm) : Prop :=
  (x2 = 0 → (f_X12_tick_77 Y v0 v1 Kn M4)) ∧ (¬ (x2 = 0) → (yK Y v0 = 12 ∧ (f_X12_without Y v0 v1 M4 (fun M9 => (f_X12_tick_77 Y v0 v1 Kn M9)))))
def f_X12_tick_62 (Y : Ly) (x3 : Int32) (again7 : Int32 → Int32 → Mm → Prop) (x20 : Int32) (M21 : Mm) : Prop :=
  ∀ x22 : Int32, x22 = x3 + 1 → (again7 x20 x22 M21)
def L_X12_tick_7 (Y : Ly) (v0 : Nat) (v1 : Int32) (Kn : Mm → Prop) (x2 : Int32) (x3 : Int32) (M4 : Mm) (again7 : Int32 → Int32 → Mm → Prop) : Prop :=
  (((8 * v1) + 8) ≤ x3 → (f_X12_tick_68 Y v0 v1 Kn x2 M4)) ∧ (¬ (((8 * v1) + 8) ≤ x3) → (yK Y v0 = 12 ∧ (∃ b13 : Nat, mR M4 v0 34 = some b13 ∧ (yK Y b13 = 101 ∧ (vp_in v1 (yN Y b13) ∧ ((¬ (mI M4 b13 v1.toNatClampNeg) = 2 → (f_X12_tick_68 Y v0 v1 Kn x2 M4)) ∧ ((mI M4 b13 v1.toNatClampNeg) = 2 → (∃ b17 : Nat, mR M4 v0 37 = some b17 ∧ (yK Y b17 = 103 ∧ (vp_in x3 (yN Y b17) ∧ (((mI M4 b17 x3.toNatClampNeg) = 0 → (f_X12_tick_62 Y x3 again7 x2 M4)) ∧ (¬ ((mI M4 b17 x3.toNatClampNeg) = 0) → (∃ b24 : Nat, mR M4 v0 39 = some b24 ∧ (yK Y b24 = 101 ∧ (vp_in x3 (yN Y b24) ∧ ((((mI M4 v0 4) - (mI M4 b24 x3.toNatClampNeg)) < 30 → (f_X12_tick_62 Y x3 again7 x2 M4)) ∧ (¬ (((mI M4 v0 4) - (mI M4 b24 x3.toNatClampNeg)) < 30) → (∃ b28 : Nat, mR M4 v0 37 = some b28 ∧ (yK Y b28 = 103 ∧ (vp_in x3 (yN Y b28) ∧ (bz 0 ∧ (∀ M32 : Mm, M32 = sI M4 b28 (m1 (mI M4 b28) x3.toNatClampNeg 0) → (f_X12_tick_62 Y x3 again7 1 M32)))))))))))))))))))))))
def f_X12_tick (Y : Ly) (v0 : Nat) (v1 : Int32) (M : Mm) (Kn : Mm → Prop) : Prop :=
  ∀ x1 : Int32, x1 = 8 * v1 → (∃ n, LOOP3 (L_X12_tick_7 Y v0 v1 Kn) n 0 x1 M)
set_option maxHeartbeats 4000000 in
set_option maxRecDepth 100000 in
theorem m_X12_tick (l : Launch) (D : va_G) (cy : Cy) (tq sz : Nat) (Y : Ly) (v0 : Nat) (v1 : Int32) (M : Mm) (Kn : Mm → Prop) : Met l yX12_tick (Cond.code yX12_tick cX12_tick 4 none :: TT) rm_X12_tick (PcG D cy tq [.ref v0, .int v1] sz Y M (f_X12_tick Y v0 v1 M Kn)) (va_Qv Kn (BG D cy (Am Y sz) Y) (Am Y sz)) 0 0 (Am Y sz) := by
  refine Met.ofW (cc := cX12_tick) (maxL := 4) (ret := none) (by decide) rfl ?_
  intro p e s m args below meth c s₁ B hml hv
  obtain ⟨hargs, hsz, hW, hK, hC, hf⟩ := hv
  subst hsz
  have hx := B.exec
  have hb := B.bytes
  have hr := B.returns
  have hts : ∀ w ∈ TT, w.before args s = true := fun w h => atoms_spec (ws := Cond.code yX12_tick cX12_tick 4 none :: TT) B.pre w (List.mem_cons_of_mem _ h)
  have hown : s.vm.findClass RX12 = some m.cls := findClass_of_methodNamed B.named
  have hlocks := B.notSynchronized
  replace hW := Wd_self (sz := s.heap.size) hW
  generalize hAe : Am Y s.heap.size = A at hW hC ⊢
  have hA : ∀ q : Nat, s.heap.size ≤ q → A q := fun q h => by rw [← hAe]; exact Or.inr h
  clear hAe
  have hS : va_S A s.heap s.heap [] := va_S.rf
  obtain ⟨ls, hE, hl⟩ := gm_entry m [.ref v0, .int v1] (n := 4) hargs (Nat.le_of_ble_eq_true rfl)
  rw [hE]
  have hl : lv_has ls 4 [(0, .ref v0), (1, .int v1)] := hl
  show W p l e rm_X12_tick s m args below meth c s.heap [] 0 0 (MQ below (va_Qv Kn (BG D cy A Y) A) args s 0 0 A) (F0 m 0 ls [])
  unfold f_X12_tick at hf
  refine lv_iconst (v := 0) hx hb dX12_tick_0 (by decide +kernel) ?_
  refine lv_istore_n (lv' := [(2, .int 0), (0, .ref v0), (1, .int v1)]) hx hb dX12_tick_1 rfl hl (by decide) rfl (fun ls hl => ?_)
  refine lv_bipush (v := 8) hx hb dX12_tick_2 (by decide +kernel) ?_
  refine lv_iload_n hx hb dX12_tick_4 rfl (lv_at hl 2 rfl) ?_
  refine lv_imul hx hb dX12_tick_5 ?_
  refine lv_topi (fun x1 ex1 => ?_)
  replace hf := hf x1 ex1
  refine lv_istore_n (lv' := [(3, .int x1), (2, .int 0), (0, .ref v0), (1, .int v1)]) hx hb dX12_tick_6 rfl hl (by decide) rfl (fun ls hl => ?_)
  obtain ⟨n7, hf⟩ := hf
  have lp7 : ∀ (n7 : Nat) (x2 : Int32) (x3 : Int32) (M4 : Mm) (H : Heap) (locs : List Loc) (ls : Array Slot), lv_has ls 4 [(0, .ref v0), (1, .int v1), (2, .int x2), (3, .int x3)] → Wd D cy A Y M4 H → va_S A s.heap H locs → LOOP3 (L_X12_tick_7 Y v0 v1 Kn) n7 x2 x3 M4 → W p l e rm_X12_tick s m args below meth c H locs 0 0 (MQ below (va_Qv Kn (BG D cy A Y) A) args s 0 0 A) (F0 m 7 ls []) := by
    intro n7
    induction n7 with
    | zero => intro x2 x3 M4 H locs ls hl hW hS hf; exact hf.elim
    | succ n7 ih7 =>
      intro x2 x3 M4 H locs ls hl hW hS hf
      replace hf : L_X12_tick_7 Y v0 v1 Kn x2 x3 M4 (LOOP3 (L_X12_tick_7 Y v0 v1 Kn) n7) := hf
      unfold L_X12_tick_7 at hf
      refine lv_iload_n hx hb dX12_tick_7 rfl (lv_at hl 3 rfl) ?_
      refine lv_bipush (v := 8) hx hb dX12_tick_8 (by decide +kernel) ?_
      refine lv_iload_n hx hb dX12_tick_10 rfl (lv_at hl 1 rfl) ?_
      refine lv_imul hx hb dX12_tick_11 ?_
      refine lv_bipush (v := 8) hx hb dX12_tick_12 (by decide +kernel) ?_
      refine lv_iadd hx hb dX12_tick_14 ?_
      have j68 : ∀ (H : Heap) (locs : List Loc) (ls : Array Slot), lv_has ls 4 [(0, .ref v0), (1, .int v1), (2, .int x2)] → Wd D cy A Y M4 H → va_S A s.heap H locs → f_X12_tick_68 Y v0 v1 Kn x2 M4  → W p l e rm_X12_tick s m args below meth c H locs 0 0 (MQ below (va_Qv Kn (BG D cy A Y) A) args s 0 0 A) (F0 m 68 ls []) := by
        intro  H locs ls hl hW hS hf
        unfold f_X12_tick_68 at hf
        refine lv_iload_n hx hb dX12_tick_68 rfl (lv_at hl 2 rfl) ?_
        have j77 : ∀ (M5 : Mm) (H : Heap) (locs : List Loc) (ls : Array Slot), lv_has ls 4 [(0, .ref v0), (1, .int v1)] → Wd D cy A Y M5 H → va_S A s.heap H locs → f_X12_tick_77 Y v0 v1 Kn M5 → W p l e rm_X12_tick s m args below meth c H locs 0 0 (MQ below (va_Qv Kn (BG D cy A Y) A) args s 0 0 A) (F0 m 77 ls []) := by
          intro M5 H locs ls hl hW hS hf
          unfold f_X12_tick_77 at hf
          refine lv_aload_n hx hb dX12_tick_77 rfl (lv_at hl 0 rfl) ?_
          refine lv_iload_n hx hb dX12_tick_78 rfl (lv_at hl 1 rfl) ?_
          obtain ⟨k7, hf⟩ := hf
          refine gm_cv (va_runV (As := [.int v1]) (rest := []) ⟨hx, hb, hml, hown, hts⟩ (m_X12_mayBeDone l D cy tq _ Y _ _ _ _) (cwV 1 hts (good_V kw_1702 kw_1703 kw_1867 kw_12 kw_1704) rfl rfl rfl (by decide +kernel) ⟨Nat.le_of_ble_eq_true rfl, Nat.le_of_ble_eq_true rfl⟩) (gm_preV hK hW hC hS hA k7 (by decide) (q := (RX12, TX12, 68)) rfl rfl hf) rfl rfl hl.1 rfl (lv_room (Nat.le_of_ble_eq_true rfl)) dX12_tick_79 ⟨Nat.le_of_ble_eq_true rfl, Nat.le_of_ble_eq_true rfl⟩) hW hS hA (fun M6 H locs hW hS hf => ?_)
          exact gm_vret hx hb hr hlocks hW hS hf dX12_tick_82
        refine lv_if_eq (tgt := 77) hx hb dX12_tick_69 (by decide) (fun c8 => ?_) (fun c8 => ?_)
        · replace hf := hf.1 c8
          exact j77 _ _ _ _ (lv_sub hl [0, 1] rfl) hW hS hf
        · replace hf := hf.2 c8
          refine lv_aload_n hx hb dX12_tick_72 rfl (lv_at hl 0 rfl) ?_
          refine lv_iload_n hx hb dX12_tick_73 rfl (lv_at hl 1 rfl) ?_
          obtain ⟨k10, hf⟩ := hf
          refine gm_cv (va_runV (As := [.int v1]) (rest := []) ⟨hx, hb, hml, hown, hts⟩ (m_X12_without l D cy tq _ Y _ _ _ _) (cwV 1 hts (good_V kw_1719 kw_1720 kw_1871 kw_12 kw_1721) rfl rfl rfl (by decide +kernel) ⟨Nat.le_of_ble_eq_true rfl, Nat.le_of_ble_eq_true rfl⟩) (gm_preV hK hW hC hS hA k10 (by decide) (q := (RX12, TX12, 68)) rfl rfl hf) rfl rfl hl.1 rfl (lv_room (Nat.le_of_ble_eq_true rfl)) dX12_tick_74 ⟨Nat.le_of_ble_eq_true rfl, Nat.le_of_ble_eq_true rfl⟩) hW hS hA (fun M9 H locs hW hS hf => ?_)
          exact j77 _ _ _ _ (lv_sub hl [0, 1] rfl) hW hS hf
      refine lv_icmp_ge (tgt := 68) hx hb dX12_tick_15 (by decide) (fun c11 => ?_) (fun c11 => ?_)
      · replace hf := hf.1 c11
        exact j68  _ _ _ (lv_sub hl [0, 1, 2] rfl) hW hS hf
      · replace hf := hf.2 c11
        refine lv_aload_n hx hb dX12_tick_18 rfl (lv_at hl 0 rfl) ?_
        obtain ⟨k12, hf⟩ := hf
        obtain ⟨b13, hb13, hf⟩ := hf
        refine gm_getR (C := RX12) (T := TX12) (N := 68) (j := 34) hx hb hts inT_12 hown hK hW k12 (by decide) rfl (by decide) rfl (hts _ kw_1350) rfl dX12_tick_19 hb13 ?_
        refine lv_iload_n hx hb dX12_tick_22 rfl (lv_at hl 1 rfl) ?_
        obtain ⟨k14, hf⟩ := hf
        obtain ⟨h15, hf⟩ := hf
        refine gm_iald hx hb hK hW k14 h15 dX12_tick_23 ?_
        refine lv_iconst (v := 2) hx hb dX12_tick_24 (by decide +kernel) ?_
        refine lv_icmp_ne (tgt := 68) hx hb dX12_tick_25 (by decide) (fun c16 => ?_) (fun c16 => ?_)
        · replace hf := hf.1 c16
          exact j68  _ _ _ (lv_sub hl [0, 1, 2] rfl) hW hS hf
        · replace hf := hf.2 c16
          refine lv_aload_n hx hb dX12_tick_28 rfl (lv_at hl 0 rfl) ?_
          obtain ⟨b17, hb17, hf⟩ := hf
          refine gm_getR (C := RX12) (T := TX12) (N := 68) (j := 37) hx hb hts inT_12 hown hK hW k12 (by decide) rfl (by decide) rfl (hts _ kw_1353) rfl dX12_tick_29 hb17 ?_
          refine lv_iload_n hx hb dX12_tick_32 rfl (lv_at hl 3 rfl) ?_
          obtain ⟨k18, hf⟩ := hf
          obtain ⟨h19, hf⟩ := hf
          refine gm_zald hx hb hK hW k18 h19 dX12_tick_33 ?_
          have j62 : ∀ (x20 : Int32) (M21 : Mm) (H : Heap) (locs : List Loc) (ls : Array Slot), lv_has ls 4 [(0, .ref v0), (1, .int v1), (2, .int x20), (3, .int x3)] → Wd D cy A Y M21 H → va_S A s.heap H locs → f_X12_tick_62 Y x3 (LOOP3 (L_X12_tick_7 Y v0 v1 Kn) n7) x20 M21 → W p l e rm_X12_tick s m args below meth c H locs 0 0 (MQ below (va_Qv Kn (BG D cy A Y) A) args s 0 0 A) (F0 m 62 ls []) := by
            intro x20 M21 H locs ls hl hW hS hf
            unfold f_X12_tick_62 at hf
            obtain ⟨x22, ex22⟩ : ∃ y : Int32, y = x3 + 1 := ⟨_, rfl⟩
            replace hf := hf x22 ex22
            refine lv_iinc (v := x22) (lv' := [(3, .int x22), (0, .ref v0), (1, .int v1), (2, .int x20)]) hx hb dX12_tick_62 hl (k := 3) rfl (by rw [ex22]; rfl) (by decide) rfl (fun ls hl => ?_)
            refine lv_goto (tgt := 7) hx hb dX12_tick_65 (by decide) ?_
            exact ih7 _ _ _ _ _ _ (lv_sub hl [1, 2, 3, 0] rfl) hW hS hf
          refine lv_if_eq (tgt := 62) hx hb dX12_tick_34 (by decide) (fun c23 => ?_) (fun c23 => ?_)
          · replace hf := hf.1 c23
            exact j62 _ _ _ _ _ (lv_sub hl [0, 1, 2, 3] rfl) hW hS hf
          · replace hf := hf.2 c23
            refine lv_aload_n hx hb dX12_tick_37 rfl (lv_at hl 0 rfl) ?_
            refine gm_getI (C := RX12) (T := TX12) (N := 68) (j := 4) hx hb hts inT_12 hown hK hW k12 (by decide) rfl (by decide) rfl (hts _ kw_1320) rfl dX12_tick_38 ?_
            refine lv_aload_n hx hb dX12_tick_41 rfl (lv_at hl 0 rfl) ?_
            obtain ⟨b24, hb24, hf⟩ := hf
            refine gm_getR (C := RX12) (T := TX12) (N := 68) (j := 39) hx hb hts inT_12 hown hK hW k12 (by decide) rfl (by decide) rfl (hts _ kw_1355) rfl dX12_tick_42 hb24 ?_
            refine lv_iload_n hx hb dX12_tick_45 rfl (lv_at hl 3 rfl) ?_
            obtain ⟨k25, hf⟩ := hf
            obtain ⟨h26, hf⟩ := hf
            refine gm_iald hx hb hK hW k25 h26 dX12_tick_46 ?_
            refine lv_isub hx hb dX12_tick_47 ?_
            refine lv_bipush (v := 30) hx hb dX12_tick_48 (by decide +kernel) ?_
            refine lv_icmp_lt (tgt := 62) hx hb dX12_tick_50 (by decide) (fun c27 => ?_) (fun c27 => ?_)
            · replace hf := hf.1 c27
              exact j62 _ _ _ _ _ (lv_sub hl [0, 1, 2, 3] rfl) hW hS hf
            · replace hf := hf.2 c27
              refine lv_aload_n hx hb dX12_tick_53 rfl (lv_at hl 0 rfl) ?_
              obtain ⟨b28, hb28, hf⟩ := hf
              refine gm_getR (C := RX12) (T := TX12) (N := 68) (j := 37) hx hb hts inT_12 hown hK hW k12 (by decide) rfl (by decide) rfl (hts _ kw_1353) rfl dX12_tick_54 hb28 ?_
              refine lv_iload_n hx hb dX12_tick_57 rfl (lv_at hl 3 rfl) ?_
              refine lv_iconst (v := 0) hx hb dX12_tick_58 (by decide +kernel) ?_
              obtain ⟨k29, hf⟩ := hf
              obtain ⟨h30, hf⟩ := hf
              obtain ⟨z31, hf⟩ := hf
              refine gm_zast hx hb hK hW hS k29 h30 (bz_v z31) dX12_tick_59 (fun H locs M32 eM32 hW hS => ?_)
              replace hf := hf M32 eM32
              refine lv_iconst (v := 1) hx hb dX12_tick_60 (by decide +kernel) ?_
              refine lv_istore_n (lv' := [(2, .int 1), (0, .ref v0), (1, .int v1), (3, .int x3)]) hx hb dX12_tick_61 rfl hl (by decide) rfl (fun ls hl => ?_)
              exact j62 _ _ _ _ _ (lv_sub hl [1, 2, 0, 3] rfl) hW hS hf
  exact lp7 n7 _ _ _ _ _ _ (lv_sub hl [2, 3, 1, 0] rfl) hW hS hf

abbrev rm_X12_ticks : Room := { frames := 8, cells := 0, slots := 0, locals := 224 }
def f_X12_ticks_137 (Y : Ly) (Kn : Int32 → Mm → Prop) (M9 : Mm) (y10 : Int32) : Prop :=
  Kn y10 M9
def f_X12_ticks_110 (Y : Ly) (v0 : Nat) (Kn : Int32 → Mm → Prop) (M9 : Mm) : Prop :=
  ((mI M9 v0 0) ≤ 0 → (((mI M9 v0 5) = 0 → (f_X12_ticks_137 Y Kn M9 (mI M9 v0 4))) ∧ (¬ ((mI M9 v0 5) = 0) → (f_X12_ticks_137 Y Kn M9 (-3))))) ∧ (¬ ((mI M9 v0 0) ≤ 0) → (f_X12_ticks_137 Y Kn M9 0))
def f_X12_ticks_104 (Y : Ly) (x8 : Int32) (again49 : Int32 → Mm → Prop) (M18 : Mm) : Prop :=
  ∀ x19 : Int32, x19 = x8 + 1 → (again49 x19 M18)
def L_X12_ticks_80 (Y : Ly) (v0 : Nat) (x8 : Int32) (again49 : Int32 → Mm → Prop) (x17 : Int32) (M18 : Mm) (again80 : Int32 → Mm → Prop) : Prop :=
  (8 ≤ x17 → (f_X12_ticks_104 Y x8 again49 M18)) ∧ (¬ (8 ≤ x17) → ((¬ (mI M18 v0 5) = 0 → (f_X12_ticks_104 Y x8 again49 M18)) ∧ ((mI M18 v0 5) = 0 → (f_X12_tick Y v0 x17 M18 (fun M22 => (∀ x23 : Int32, x23 = x17 + 1 → (again80 x23 M22)))))))
def L_X12_ticks_49 (Y : Ly) (v0 : Nat) (v1 : Int32) (Kn : Int32 → Mm → Prop) (x8 : Int32) (M9 : Mm) (again49 : Int32 → Mm → Prop) : Prop :=
  (v1 ≤ x8 → (f_X12_ticks_110 Y v0 Kn M9)) ∧ (¬ (v1 ≤ x8) → ((¬ (mI M9 v0 0) = 0 → (f_X12_ticks_110 Y v0 Kn M9)) ∧ ((mI M9 v0 0) = 0 → ((¬ (mI M9 v0 5) = 0 → (f_X12_ticks_110 Y v0 Kn M9)) ∧ ((mI M9 v0 5) = 0 → (∀ M16 : Mm, M16 = sI M9 v0 (m1 (mI M9 v0) 4 ((mI M9 v0 4) + 1)) → (∃ n, LOOP2 (L_X12_ticks_80 Y v0 x8 again49) n 0 M16)))))))
def f_X12_ticks_44 (Y : Ly) (v0 : Nat) (v1 : Int32) (Kn : Int32 → Mm → Prop) (M2 : Mm) (y6 : Int32) : Prop :=
  ∀ M7 : Mm, M7 = sI M2 v0 (m1 (mI M2 v0) 0 y6) → (∃ n, LOOP2 (L_X12_ticks_49 Y v0 v1 Kn) n 0 M7)
def f_X12_ticks_18 (Y : Ly) (v0 : Nat) (v1 : Int32) (M : Mm) (Kn : Int32 → Mm → Prop) (y1 : Int32) : Prop :=
  yK Y v0 = 12 ∧ (f_X12_goes Y v0 y1 M (fun r3 M2 => ((¬ r3 = 0 → ((((mI M2 v0 4) + v1) ≤ 100000 → (f_X12_ticks_44 Y v0 v1 Kn M2 0)) ∧ (¬ (((mI M2 v0 4) + v1) ≤ 100000) → (f_X12_ticks_44 Y v0 v1 Kn M2 2)))) ∧ (r3 = 0 → (Kn 0 M2)))))
def f_X12_ticks_17 (Y : Ly) (v0 : Nat) (v1 : Int32) (M : Mm) (Kn : Int32 → Mm → Prop) : Prop :=
  f_X12_ticks_18 Y v0 v1 M Kn 0
def f_X12_ticks (Y : Ly) (v0 : Nat) (v1 : Int32) (M : Mm) (Kn : Int32 → Mm → Prop) : Prop :=
  (v1 < 1 → (f_X12_ticks_17 Y v0 v1 M Kn)) ∧ (¬ (v1 < 1) → ((200 < v1 → (f_X12_ticks_17 Y v0 v1 M Kn)) ∧ (¬ (200 < v1) → (f_X12_ticks_18 Y v0 v1 M Kn 1))))
set_option maxHeartbeats 4000000 in
set_option maxRecDepth 100000 in
theorem m_X12_ticks (l : Launch) (D : va_G) (cy : Cy) (tq sz : Nat) (Y : Ly) (v0 : Nat) (v1 : Int32) (M : Mm) (Kn : Int32 → Mm → Prop) : Met l yX12_ticks (Cond.code yX12_ticks cX12_ticks 4 (some .int) :: TT) rm_X12_ticks (PcG D cy tq [.ref v0, .int v1] sz Y M (f_X12_ticks Y v0 v1 M Kn)) (va_Qi Kn (BG D cy (Am Y sz) Y) (Am Y sz)) 0 0 (Am Y sz) := by
  refine Met.ofW (cc := cX12_ticks) (maxL := 4) (ret := (some .int)) (by decide) rfl ?_
  intro p e s m args below meth c s₁ B hml hv
  obtain ⟨hargs, hsz, hW, hK, hC, hf⟩ := hv
  subst hsz
  have hx := B.exec
  have hb := B.bytes
  have hr := B.returns
  have hts : ∀ w ∈ TT, w.before args s = true := fun w h => atoms_spec (ws := Cond.code yX12_ticks cX12_ticks 4 (some .int) :: TT) B.pre w (List.mem_cons_of_mem _ h)
  have hown : s.vm.findClass RX12 = some m.cls := findClass_of_methodNamed B.named
  have hlocks := B.notSynchronized
  replace hW := Wd_self (sz := s.heap.size) hW
  generalize hAe : Am Y s.heap.size = A at hW hC ⊢
  have hA : ∀ q : Nat, s.heap.size ≤ q → A q := fun q h => by rw [← hAe]; exact Or.inr h
  clear hAe
  have hS : va_S A s.heap s.heap [] := va_S.rf
  obtain ⟨ls, hE, hl⟩ := gm_entry m [.ref v0, .int v1] (n := 4) hargs (Nat.le_of_ble_eq_true rfl)
  rw [hE]
  have hl : lv_has ls 4 [(0, .ref v0), (1, .int v1)] := hl
  show W p l e rm_X12_ticks s m args below meth c s.heap [] 0 0 (MQ below (va_Qi Kn (BG D cy A Y) A) args s 0 0 A) (F0 m 0 ls [])
  unfold f_X12_ticks at hf
  refine lv_aload_n hx hb dX12_ticks_0 rfl (lv_at hl 0 rfl) ?_
  refine lv_iload_n hx hb dX12_ticks_1 rfl (lv_at hl 1 rfl) ?_
  refine lv_iconst (v := 1) hx hb dX12_ticks_2 (by decide +kernel) ?_
  have j18 : ∀ (y1 : Int32) (H : Heap) (locs : List Loc) (ls : Array Slot), lv_has ls 4 [(0, .ref v0), (1, .int v1)] → Wd D cy A Y M H → va_S A s.heap H locs → f_X12_ticks_18 Y v0 v1 M Kn y1 → W p l e rm_X12_ticks s m args below meth c H locs 0 0 (MQ below (va_Qi Kn (BG D cy A Y) A) args s 0 0 A) (F0 m 18 ls [.int y1, .ref v0]) := by
    intro y1 H locs ls hl hW hS hf
    unfold f_X12_ticks_18 at hf
    obtain ⟨k4, hf⟩ := hf
    refine gm_ci (va_runV (As := [.int y1]) (rest := []) ⟨hx, hb, hml, hown, hts⟩ (m_X12_goes l D cy tq _ Y _ _ _ _) (cwV 1 hts (good_V kw_1564 kw_1565 kw_1838 kw_12 kw_1566) rfl rfl rfl (by decide +kernel) ⟨Nat.le_of_ble_eq_true rfl, Nat.le_of_ble_eq_true rfl⟩) (gm_preV hK hW hC hS hA k4 (by decide) (q := (RX12, TX12, 68)) rfl rfl hf) rfl rfl hl.1 rfl (lv_room (Nat.le_of_ble_eq_true rfl)) dX12_ticks_18 ⟨Nat.le_of_ble_eq_true rfl, Nat.le_of_ble_eq_true rfl⟩) hW hS hA (fun r3 M2 H locs hW hS hf => ?_)
    refine lv_if_ne (tgt := 26) hx hb dX12_ticks_21 (by decide) (fun c5 => ?_) (fun c5 => ?_)
    · replace hf := hf.1 c5
      refine lv_aload_n hx hb dX12_ticks_26 rfl (lv_at hl 0 rfl) ?_
      refine lv_aload_n hx hb dX12_ticks_27 rfl (lv_at hl 0 rfl) ?_
      refine gm_getI (C := RX12) (T := TX12) (N := 68) (j := 4) hx hb hts inT_12 hown hK hW k4 (by decide) rfl (by decide) rfl (hts _ kw_1320) rfl dX12_ticks_28 ?_
      refine lv_iload_n hx hb dX12_ticks_31 rfl (lv_at hl 1 rfl) ?_
      refine lv_iadd hx hb dX12_ticks_32 ?_
      refine lv_ldcw (v := 100000) hx hb hown (hts _ kw_1752) dX12_ticks_33 ?_
      have j44 : ∀ (y6 : Int32) (H : Heap) (locs : List Loc) (ls : Array Slot), lv_has ls 4 [(0, .ref v0), (1, .int v1)] → Wd D cy A Y M2 H → va_S A s.heap H locs → f_X12_ticks_44 Y v0 v1 Kn M2 y6 → W p l e rm_X12_ticks s m args below meth c H locs 0 0 (MQ below (va_Qi Kn (BG D cy A Y) A) args s 0 0 A) (F0 m 44 ls [.int y6, .ref v0]) := by
        intro y6 H locs ls hl hW hS hf
        unfold f_X12_ticks_44 at hf
        refine gm_putI (C := RX12) (T := TX12) (N := 68) (j := 0) hx hb hts inT_12 tyX12 tyX12_ok nmX12 hown hK hW hS k4 (by decide) rfl (by decide) rfl (hts _ kw_1316) rfl rfl rfl rfl dX12_ticks_44 (fun H locs M7 eM7 hW hS => ?_)
        replace hf := hf M7 eM7
        refine lv_iconst (v := 0) hx hb dX12_ticks_47 (by decide +kernel) ?_
        refine lv_istore_n (lv' := [(2, .int 0), (0, .ref v0), (1, .int v1)]) hx hb dX12_ticks_48 rfl hl (by decide) rfl (fun ls hl => ?_)
        obtain ⟨n49, hf⟩ := hf
        have lp49 : ∀ (n49 : Nat) (x8 : Int32) (M9 : Mm) (H : Heap) (locs : List Loc) (ls : Array Slot), lv_has ls 4 [(0, .ref v0), (1, .int v1), (2, .int x8)] → Wd D cy A Y M9 H → va_S A s.heap H locs → LOOP2 (L_X12_ticks_49 Y v0 v1 Kn) n49 x8 M9 → W p l e rm_X12_ticks s m args below meth c H locs 0 0 (MQ below (va_Qi Kn (BG D cy A Y) A) args s 0 0 A) (F0 m 49 ls []) := by
          intro n49
          induction n49 with
          | zero => intro x8 M9 H locs ls hl hW hS hf; exact hf.elim
          | succ n49 ih49 =>
            intro x8 M9 H locs ls hl hW hS hf
            replace hf : L_X12_ticks_49 Y v0 v1 Kn x8 M9 (LOOP2 (L_X12_ticks_49 Y v0 v1 Kn) n49) := hf
            unfold L_X12_ticks_49 at hf
            refine lv_iload_n hx hb dX12_ticks_49 rfl (lv_at hl 2 rfl) ?_
            refine lv_iload_n hx hb dX12_ticks_50 rfl (lv_at hl 1 rfl) ?_
            have j110 : ∀ (H : Heap) (locs : List Loc) (ls : Array Slot), lv_has ls 4 [(0, .ref v0)] → Wd D cy A Y M9 H → va_S A s.heap H locs → f_X12_ticks_110 Y v0 Kn M9  → W p l e rm_X12_ticks s m args below meth c H locs 0 0 (MQ below (va_Qi Kn (BG D cy A Y) A) args s 0 0 A) (F0 m 110 ls []) := by
              intro  H locs ls hl hW hS hf
              unfold f_X12_ticks_110 at hf
              refine lv_aload_n hx hb dX12_ticks_110 rfl (lv_at hl 0 rfl) ?_
              refine gm_getI (C := RX12) (T := TX12) (N := 68) (j := 0) hx hb hts inT_12 hown hK hW k4 (by decide) rfl (by decide) rfl (hts _ kw_1316) rfl dX12_ticks_111 ?_
              have j137 : ∀ (y10 : Int32) (H : Heap) (locs : List Loc) (ls : Array Slot), lv_has ls 4 [] → Wd D cy A Y M9 H → va_S A s.heap H locs → f_X12_ticks_137 Y Kn M9 y10 → W p l e rm_X12_ticks s m args below meth c H locs 0 0 (MQ below (va_Qi Kn (BG D cy A Y) A) args s 0 0 A) (F0 m 137 ls [.int y10]) := by
                intro y10 H locs ls hl hW hS hf
                unfold f_X12_ticks_137 at hf
                exact gm_iret hx hb hr hlocks hW hS hf dX12_ticks_137
              refine lv_if_le (tgt := 121) hx hb dX12_ticks_114 (by decide) (fun c11 => ?_) (fun c11 => ?_)
              · replace hf := hf.1 c11
                refine lv_aload_n hx hb dX12_ticks_121 rfl (lv_at hl 0 rfl) ?_
                refine gm_getI (C := RX12) (T := TX12) (N := 68) (j := 5) hx hb hts inT_12 hown hK hW k4 (by decide) rfl (by decide) rfl (hts _ kw_1321) rfl dX12_ticks_122 ?_
                refine lv_if_eq (tgt := 133) hx hb dX12_ticks_125 (by decide) (fun c12 => ?_) (fun c12 => ?_)
                · replace hf := hf.1 c12
                  refine lv_aload_n hx hb dX12_ticks_133 rfl (lv_at hl 0 rfl) ?_
                  refine gm_getI (C := RX12) (T := TX12) (N := 68) (j := 4) hx hb hts inT_12 hown hK hW k4 (by decide) rfl (by decide) rfl (hts _ kw_1320) rfl dX12_ticks_134 ?_
                  exact j137 _ _ _ _ (lv_sub hl [] rfl) hW hS hf
                · replace hf := hf.2 c12
                  refine lv_bipush (v := -3) hx hb dX12_ticks_128 (by decide +kernel) ?_
                  refine lv_goto (tgt := 137) hx hb dX12_ticks_130 (by decide) ?_
                  exact j137 _ _ _ _ (lv_sub hl [] rfl) hW hS hf
              · replace hf := hf.2 c11
                refine lv_iconst (v := 0) hx hb dX12_ticks_117 (by decide +kernel) ?_
                refine lv_goto (tgt := 137) hx hb dX12_ticks_118 (by decide) ?_
                exact j137 _ _ _ _ (lv_sub hl [] rfl) hW hS hf
            refine lv_icmp_ge (tgt := 110) hx hb dX12_ticks_51 (by decide) (fun c13 => ?_) (fun c13 => ?_)
            · replace hf := hf.1 c13
              exact j110  _ _ _ (lv_sub hl [0] rfl) hW hS hf
            · replace hf := hf.2 c13
              refine lv_aload_n hx hb dX12_ticks_54 rfl (lv_at hl 0 rfl) ?_
              refine gm_getI (C := RX12) (T := TX12) (N := 68) (j := 0) hx hb hts inT_12 hown hK hW k4 (by decide) rfl (by decide) rfl (hts _ kw_1316) rfl dX12_ticks_55 ?_
              refine lv_if_ne (tgt := 110) hx hb dX12_ticks_58 (by decide) (fun c14 => ?_) (fun c14 => ?_)
              · replace hf := hf.1 c14
                exact j110  _ _ _ (lv_sub hl [0] rfl) hW hS hf
              · replace hf := hf.2 c14
                refine lv_aload_n hx hb dX12_ticks_61 rfl (lv_at hl 0 rfl) ?_
                refine gm_getI (C := RX12) (T := TX12) (N := 68) (j := 5) hx hb hts inT_12 hown hK hW k4 (by decide) rfl (by decide) rfl (hts _ kw_1321) rfl dX12_ticks_62 ?_
                refine lv_if_ne (tgt := 110) hx hb dX12_ticks_65 (by decide) (fun c15 => ?_) (fun c15 => ?_)
                · replace hf := hf.1 c15
                  exact j110  _ _ _ (lv_sub hl [0] rfl) hW hS hf
                · replace hf := hf.2 c15
                  refine lv_aload_n hx hb dX12_ticks_68 rfl (lv_at hl 0 rfl) ?_
                  refine lv_dup hx hb dX12_ticks_69 rfl ?_
                  refine gm_getI (C := RX12) (T := TX12) (N := 68) (j := 4) hx hb hts inT_12 hown hK hW k4 (by decide) rfl (by decide) rfl (hts _ kw_1320) rfl dX12_ticks_70 ?_
                  refine lv_iconst (v := 1) hx hb dX12_ticks_73 (by decide +kernel) ?_
                  refine lv_iadd hx hb dX12_ticks_74 ?_
                  refine gm_putI (C := RX12) (T := TX12) (N := 68) (j := 4) hx hb hts inT_12 tyX12 tyX12_ok nmX12 hown hK hW hS k4 (by decide) rfl (by decide) rfl (hts _ kw_1320) rfl rfl rfl rfl dX12_ticks_75 (fun H locs M16 eM16 hW hS => ?_)
                  replace hf := hf M16 eM16
                  refine lv_iconst (v := 0) hx hb dX12_ticks_78 (by decide +kernel) ?_
                  refine lv_istore_n (lv' := [(3, .int 0), (0, .ref v0), (1, .int v1), (2, .int x8)]) hx hb dX12_ticks_79 rfl hl (by decide) rfl (fun ls hl => ?_)
                  obtain ⟨n80, hf⟩ := hf
                  have lp80 : ∀ (n80 : Nat) (x17 : Int32) (M18 : Mm) (H : Heap) (locs : List Loc) (ls : Array Slot), lv_has ls 4 [(0, .ref v0), (1, .int v1), (2, .int x8), (3, .int x17)] → Wd D cy A Y M18 H → va_S A s.heap H locs → LOOP2 (L_X12_ticks_80 Y v0 x8 (LOOP2 (L_X12_ticks_49 Y v0 v1 Kn) n49)) n80 x17 M18 → W p l e rm_X12_ticks s m args below meth c H locs 0 0 (MQ below (va_Qi Kn (BG D cy A Y) A) args s 0 0 A) (F0 m 80 ls []) := by
                    intro n80
                    induction n80 with
                    | zero => intro x17 M18 H locs ls hl hW hS hf; exact hf.elim
                    | succ n80 ih80 =>
                      intro x17 M18 H locs ls hl hW hS hf
                      replace hf : L_X12_ticks_80 Y v0 x8 (LOOP2 (L_X12_ticks_49 Y v0 v1 Kn) n49) x17 M18 (LOOP2 (L_X12_ticks_80 Y v0 x8 (LOOP2 (L_X12_ticks_49 Y v0 v1 Kn) n49)) n80) := hf
                      unfold L_X12_ticks_80 at hf
                      refine lv_iload_n hx hb dX12_ticks_80 rfl (lv_at hl 3 rfl) ?_
                      refine lv_bipush (v := 8) hx hb dX12_ticks_81 (by decide +kernel) ?_
                      have j104 : ∀ (H : Heap) (locs : List Loc) (ls : Array Slot), lv_has ls 4 [(0, .ref v0), (1, .int v1), (2, .int x8)] → Wd D cy A Y M18 H → va_S A s.heap H locs → f_X12_ticks_104 Y x8 (LOOP2 (L_X12_ticks_49 Y v0 v1 Kn) n49) M18  → W p l e rm_X12_ticks s m args below meth c H locs 0 0 (MQ below (va_Qi Kn (BG D cy A Y) A) args s 0 0 A) (F0 m 104 ls []) := by
                        intro  H locs ls hl hW hS hf
                        unfold f_X12_ticks_104 at hf
                        obtain ⟨x19, ex19⟩ : ∃ y : Int32, y = x8 + 1 := ⟨_, rfl⟩
                        replace hf := hf x19 ex19
                        refine lv_iinc (v := x19) (lv' := [(2, .int x19), (0, .ref v0), (1, .int v1)]) hx hb dX12_ticks_104 hl (k := 2) rfl (by rw [ex19]; rfl) (by decide) rfl (fun ls hl => ?_)
                        refine lv_goto (tgt := 49) hx hb dX12_ticks_107 (by decide) ?_
                        exact ih49 _ _ _ _ _ (lv_sub hl [1, 2, 0] rfl) hW hS hf
                      refine lv_icmp_ge (tgt := 104) hx hb dX12_ticks_83 (by decide) (fun c20 => ?_) (fun c20 => ?_)
                      · replace hf := hf.1 c20
                        exact j104  _ _ _ (lv_sub hl [0, 1, 2] rfl) hW hS hf
                      · replace hf := hf.2 c20
                        refine lv_aload_n hx hb dX12_ticks_86 rfl (lv_at hl 0 rfl) ?_
                        refine gm_getI (C := RX12) (T := TX12) (N := 68) (j := 5) hx hb hts inT_12 hown hK hW k4 (by decide) rfl (by decide) rfl (hts _ kw_1321) rfl dX12_ticks_87 ?_
                        refine lv_if_ne (tgt := 104) hx hb dX12_ticks_90 (by decide) (fun c21 => ?_) (fun c21 => ?_)
                        · replace hf := hf.1 c21
                          exact j104  _ _ _ (lv_sub hl [0, 1, 2] rfl) hW hS hf
                        · replace hf := hf.2 c21
                          refine lv_aload_n hx hb dX12_ticks_93 rfl (lv_at hl 0 rfl) ?_
                          refine lv_iload_n hx hb dX12_ticks_94 rfl (lv_at hl 3 rfl) ?_
                          refine gm_cv (va_runV (As := [.int x17]) (rest := []) ⟨hx, hb, hml, hown, hts⟩ (m_X12_tick l D cy tq _ Y _ _ _ _) (cwV 1 hts (good_V kw_1753 kw_1754 kw_1874 kw_12 kw_1755) rfl rfl rfl (by decide +kernel) ⟨Nat.le_of_ble_eq_true rfl, Nat.le_of_ble_eq_true rfl⟩) (gm_preV hK hW hC hS hA k4 (by decide) (q := (RX12, TX12, 68)) rfl rfl hf) rfl rfl hl.1 rfl (lv_room (Nat.le_of_ble_eq_true rfl)) dX12_ticks_95 ⟨Nat.le_of_ble_eq_true rfl, Nat.le_of_ble_eq_true rfl⟩) hW hS hA (fun M22 H locs hW hS hf => ?_)
                          obtain ⟨x23, ex23⟩ : ∃ y : Int32, y = x17 + 1 := ⟨_, rfl⟩
                          replace hf := hf x23 ex23
                          refine lv_iinc (v := x23) (lv' := [(3, .int x23), (0, .ref v0), (1, .int v1), (2, .int x8)]) hx hb dX12_ticks_98 hl (k := 3) rfl (by rw [ex23]; rfl) (by decide) rfl (fun ls hl => ?_)
                          refine lv_goto (tgt := 80) hx hb dX12_ticks_101 (by decide) ?_
                          exact ih80 _ _ _ _ _ (lv_sub hl [1, 2, 3, 0] rfl) hW hS hf
                  exact lp80 n80 _ _ _ _ _ (lv_sub hl [1, 2, 3, 0] rfl) hW hS hf
        exact lp49 n49 _ _ _ _ _ (lv_sub hl [1, 2, 0] rfl) hW hS hf
      refine lv_icmp_le (tgt := 43) hx hb dX12_ticks_36 (by decide) (fun c24 => ?_) (fun c24 => ?_)
      · replace hf := hf.1 c24
        refine lv_iconst (v := 0) hx hb dX12_ticks_43 (by decide +kernel) ?_
        exact j44 _ _ _ _ (lv_sub hl [0, 1] rfl) hW hS hf
      · replace hf := hf.2 c24
        refine lv_iconst (v := 2) hx hb dX12_ticks_39 (by decide +kernel) ?_
        refine lv_goto (tgt := 44) hx hb dX12_ticks_40 (by decide) ?_
        exact j44 _ _ _ _ (lv_sub hl [0, 1] rfl) hW hS hf
    · replace hf := hf.2 c5
      refine lv_iconst (v := 0) hx hb dX12_ticks_24 (by decide +kernel) ?_
      exact gm_iret hx hb hr hlocks hW hS hf dX12_ticks_25
  have j17 : ∀ (H : Heap) (locs : List Loc) (ls : Array Slot), lv_has ls 4 [(0, .ref v0), (1, .int v1)] → Wd D cy A Y M H → va_S A s.heap H locs → f_X12_ticks_17 Y v0 v1 M Kn  → W p l e rm_X12_ticks s m args below meth c H locs 0 0 (MQ below (va_Qi Kn (BG D cy A Y) A) args s 0 0 A) (F0 m 17 ls [.ref v0]) := by
    intro  H locs ls hl hW hS hf
    unfold f_X12_ticks_17 at hf
    refine lv_iconst (v := 0) hx hb dX12_ticks_17 (by decide +kernel) ?_
    exact j18 _ _ _ _ (lv_sub hl [0, 1] rfl) hW hS hf
  refine lv_icmp_lt (tgt := 17) hx hb dX12_ticks_3 (by decide) (fun c25 => ?_) (fun c25 => ?_)
  · replace hf := hf.1 c25
    exact j17  _ _ _ (lv_sub hl [0, 1] rfl) hW hS hf
  · replace hf := hf.2 c25
    refine lv_iload_n hx hb dX12_ticks_6 rfl (lv_at hl 1 rfl) ?_
    refine lv_sipush (v := 200) hx hb dX12_ticks_7 (by decide +kernel) ?_
    refine lv_icmp_gt (tgt := 17) hx hb dX12_ticks_10 (by decide) (fun c26 => ?_) (fun c26 => ?_)
    · replace hf := hf.1 c26
      exact j17  _ _ _ (lv_sub hl [0, 1] rfl) hW hS hf
    · replace hf := hf.2 c26
      refine lv_iconst (v := 1) hx hb dX12_ticks_13 (by decide +kernel) ?_
      refine lv_goto (tgt := 18) hx hb dX12_ticks_14 (by decide) ?_
      exact j18 _ _ _ _ (lv_sub hl [0, 1] rfl) hW hS hf

abbrev rm_X12_time : Room := { frames := 2, cells := 0, slots := 0, locals := 80 }
def f_X12_time (Y : Ly) (v0 : Nat) (M : Mm) (Kn : Int32 → Mm → Prop) : Prop :=
  yK Y v0 = 12 ∧ (∀ M2 : Mm, M2 = sI M v0 (m1 (mI M v0) 0 0) → (Kn (mI M2 v0 4) M2))
set_option maxHeartbeats 4000000 in
set_option maxRecDepth 100000 in
theorem m_X12_time (l : Launch) (D : va_G) (cy : Cy) (tq sz : Nat) (Y : Ly) (v0 : Nat) (M : Mm) (Kn : Int32 → Mm → Prop) : Met l yX12_time (Cond.code yX12_time cX12_time 1 (some .int) :: TT) rm_X12_time (PcG D cy tq [.ref v0] sz Y M (f_X12_time Y v0 M Kn)) (va_Qi Kn (BG D cy (Am Y sz) Y) (Am Y sz)) 0 0 (Am Y sz) := by
  refine Met.ofW (cc := cX12_time) (maxL := 1) (ret := (some .int)) (by decide) rfl ?_
  intro p e s m args below meth c s₁ B hml hv
  obtain ⟨hargs, hsz, hW, hK, hC, hf⟩ := hv
  subst hsz
  have hx := B.exec
  have hb := B.bytes
  have hr := B.returns
  have hts : ∀ w ∈ TT, w.before args s = true := fun w h => atoms_spec (ws := Cond.code yX12_time cX12_time 1 (some .int) :: TT) B.pre w (List.mem_cons_of_mem _ h)
  have hown : s.vm.findClass RX12 = some m.cls := findClass_of_methodNamed B.named
  have hlocks := B.notSynchronized
  replace hW := Wd_self (sz := s.heap.size) hW
  generalize hAe : Am Y s.heap.size = A at hW hC ⊢
  have hA : ∀ q : Nat, s.heap.size ≤ q → A q := fun q h => by rw [← hAe]; exact Or.inr h
  clear hAe
  have hS : va_S A s.heap s.heap [] := va_S.rf
  obtain ⟨ls, hE, hl⟩ := gm_entry m [.ref v0] (n := 1) hargs (Nat.le_of_ble_eq_true rfl)
  rw [hE]
  have hl : lv_has ls 1 [(0, .ref v0)] := hl
  show W p l e rm_X12_time s m args below meth c s.heap [] 0 0 (MQ below (va_Qi Kn (BG D cy A Y) A) args s 0 0 A) (F0 m 0 ls [])
  unfold f_X12_time at hf
  refine lv_aload_n hx hb dX12_time_0 rfl (lv_at hl 0 rfl) ?_
  refine lv_iconst (v := 0) hx hb dX12_time_1 (by decide +kernel) ?_
  obtain ⟨k1, hf⟩ := hf
  refine gm_putI (C := RX12) (T := TX12) (N := 68) (j := 0) hx hb hts inT_12 tyX12 tyX12_ok nmX12 hown hK hW hS k1 (by decide) rfl (by decide) rfl (hts _ kw_1316) rfl rfl rfl rfl dX12_time_2 (fun H locs M2 eM2 hW hS => ?_)
  replace hf := hf M2 eM2
  refine lv_aload_n hx hb dX12_time_5 rfl (lv_at hl 0 rfl) ?_
  refine gm_getI (C := RX12) (T := TX12) (N := 68) (j := 4) hx hb hts inT_12 hown hK hW k1 (by decide) rfl (by decide) rfl (hts _ kw_1320) rfl dX12_time_6 ?_
  exact gm_iret hx hb hr hlocks hW hS hf dX12_time_9

abbrev rm_X12_crash : Room := { frames := 3, cells := 0, slots := 0, locals := 101 }
def f_X12_crash_42 (Y : Ly) (Kn : Mm → Prop) (M5 : Mm) : Prop :=
  Kn M5
def f_X12_crash_39 (Y : Ly) (v0 : Nat) (Kn : Mm → Prop) (M7 : Mm) (y8 : Int32) : Prop :=
  bz y8 ∧ (∀ M10 : Mm, M10 = sI M7 v0 (m1 (mI M7 v0) 5 y8) → (f_X12_crash_42 Y Kn M10))
def f_X12_crash_18 (Y : Ly) (v0 : Nat) (v1 : Int32) (M : Mm) (Kn : Mm → Prop) (y1 : Int32) : Prop :=
  yK Y v0 = 12 ∧ (f_X12_goes Y v0 y1 M (fun r3 M2 => ((r3 = 0 → (f_X12_crash_42 Y Kn M2)) ∧ (¬ (r3 = 0) → (∀ M7 : Mm, M7 = sI M2 v0 (m1 (mI M2 v0) 7 v1) → ((¬ v1 = 0 → (f_X12_crash_39 Y v0 Kn M7 0)) ∧ (v1 = 0 → (f_X12_crash_39 Y v0 Kn M7 1))))))))
def f_X12_crash_17 (Y : Ly) (v0 : Nat) (v1 : Int32) (M : Mm) (Kn : Mm → Prop) : Prop :=
  f_X12_crash_18 Y v0 v1 M Kn 0
def f_X12_crash (Y : Ly) (v0 : Nat) (v1 : Int32) (M : Mm) (Kn : Mm → Prop) : Prop :=
  (v1 < (-1) → (f_X12_crash_17 Y v0 v1 M Kn)) ∧ (¬ (v1 < (-1)) → ((1000 < v1 → (f_X12_crash_17 Y v0 v1 M Kn)) ∧ (¬ (1000 < v1) → (f_X12_crash_18 Y v0 v1 M Kn 1))))
set_option maxHeartbeats 4000000 in
set_option maxRecDepth 100000 in
theorem m_X12_crash (l : Launch) (D : va_G) (cy : Cy) (tq sz : Nat) (Y : Ly) (v0 : Nat) (v1 : Int32) (M : Mm) (Kn : Mm → Prop) : Met l yX12_crash (Cond.code yX12_crash cX12_crash 2 none :: TT) rm_X12_crash (PcG D cy tq [.ref v0, .int v1] sz Y M (f_X12_crash Y v0 v1 M Kn)) (va_Qv Kn (BG D cy (Am Y sz) Y) (Am Y sz)) 0 0 (Am Y sz) := by
  refine Met.ofW (cc := cX12_crash) (maxL := 2) (ret := none) (by decide) rfl ?_
  intro p e s m args below meth c s₁ B hml hv
  obtain ⟨hargs, hsz, hW, hK, hC, hf⟩ := hv
  subst hsz
  have hx := B.exec
  have hb := B.bytes
  have hr := B.returns
  have hts : ∀ w ∈ TT, w.before args s = true := fun w h => atoms_spec (ws := Cond.code yX12_crash cX12_crash 2 none :: TT) B.pre w (List.mem_cons_of_mem _ h)
  have hown : s.vm.findClass RX12 = some m.cls := findClass_of_methodNamed B.named
  have hlocks := B.notSynchronized
  replace hW := Wd_self (sz := s.heap.size) hW
  generalize hAe : Am Y s.heap.size = A at hW hC ⊢
  have hA : ∀ q : Nat, s.heap.size ≤ q → A q := fun q h => by rw [← hAe]; exact Or.inr h
  clear hAe
  have hS : va_S A s.heap s.heap [] := va_S.rf
  obtain ⟨ls, hE, hl⟩ := gm_entry m [.ref v0, .int v1] (n := 2) hargs (Nat.le_of_ble_eq_true rfl)
  rw [hE]
  have hl : lv_has ls 2 [(0, .ref v0), (1, .int v1)] := hl
  show W p l e rm_X12_crash s m args below meth c s.heap [] 0 0 (MQ below (va_Qv Kn (BG D cy A Y) A) args s 0 0 A) (F0 m 0 ls [])
  unfold f_X12_crash at hf
  refine lv_aload_n hx hb dX12_crash_0 rfl (lv_at hl 0 rfl) ?_
  refine lv_iload_n hx hb dX12_crash_1 rfl (lv_at hl 1 rfl) ?_
  refine lv_iconst (v := -1) hx hb dX12_crash_2 (by decide +kernel) ?_
  have j18 : ∀ (y1 : Int32) (H : Heap) (locs : List Loc) (ls : Array Slot), lv_has ls 2 [(0, .ref v0), (1, .int v1)] → Wd D cy A Y M H → va_S A s.heap H locs → f_X12_crash_18 Y v0 v1 M Kn y1 → W p l e rm_X12_crash s m args below meth c H locs 0 0 (MQ below (va_Qv Kn (BG D cy A Y) A) args s 0 0 A) (F0 m 18 ls [.int y1, .ref v0]) := by
    intro y1 H locs ls hl hW hS hf
    unfold f_X12_crash_18 at hf
    obtain ⟨k4, hf⟩ := hf
    refine gm_ci (va_runV (As := [.int y1]) (rest := []) ⟨hx, hb, hml, hown, hts⟩ (m_X12_goes l D cy tq _ Y _ _ _ _) (cwV 1 hts (good_V kw_1564 kw_1565 kw_1838 kw_12 kw_1566) rfl rfl rfl (by decide +kernel) ⟨Nat.le_of_ble_eq_true rfl, Nat.le_of_ble_eq_true rfl⟩) (gm_preV hK hW hC hS hA k4 (by decide) (q := (RX12, TX12, 68)) rfl rfl hf) rfl rfl hl.1 rfl (lv_room (Nat.le_of_ble_eq_true rfl)) dX12_crash_18 ⟨Nat.le_of_ble_eq_true rfl, Nat.le_of_ble_eq_true rfl⟩) hW hS hA (fun r3 M2 H locs hW hS hf => ?_)
    have j42 : ∀ (M5 : Mm) (H : Heap) (locs : List Loc) (ls : Array Slot), lv_has ls 2 [] → Wd D cy A Y M5 H → va_S A s.heap H locs → f_X12_crash_42 Y Kn M5 → W p l e rm_X12_crash s m args below meth c H locs 0 0 (MQ below (va_Qv Kn (BG D cy A Y) A) args s 0 0 A) (F0 m 42 ls []) := by
      intro M5 H locs ls hl hW hS hf
      unfold f_X12_crash_42 at hf
      exact gm_vret hx hb hr hlocks hW hS hf dX12_crash_42
    refine lv_if_eq (tgt := 42) hx hb dX12_crash_21 (by decide) (fun c6 => ?_) (fun c6 => ?_)
    · replace hf := hf.1 c6
      exact j42 _ _ _ _ (lv_sub hl [] rfl) hW hS hf
    · replace hf := hf.2 c6
      refine lv_aload_n hx hb dX12_crash_24 rfl (lv_at hl 0 rfl) ?_
      refine lv_iload_n hx hb dX12_crash_25 rfl (lv_at hl 1 rfl) ?_
      refine gm_putI (C := RX12) (T := TX12) (N := 68) (j := 7) hx hb hts inT_12 tyX12 tyX12_ok nmX12 hown hK hW hS k4 (by decide) rfl (by decide) rfl (hts _ kw_1323) rfl rfl rfl rfl dX12_crash_26 (fun H locs M7 eM7 hW hS => ?_)
      replace hf := hf M7 eM7
      refine lv_aload_n hx hb dX12_crash_29 rfl (lv_at hl 0 rfl) ?_
      refine lv_iload_n hx hb dX12_crash_30 rfl (lv_at hl 1 rfl) ?_
      have j39 : ∀ (y8 : Int32) (H : Heap) (locs : List Loc) (ls : Array Slot), lv_has ls 2 [] → Wd D cy A Y M7 H → va_S A s.heap H locs → f_X12_crash_39 Y v0 Kn M7 y8 → W p l e rm_X12_crash s m args below meth c H locs 0 0 (MQ below (va_Qv Kn (BG D cy A Y) A) args s 0 0 A) (F0 m 39 ls [.int y8, .ref v0]) := by
        intro y8 H locs ls hl hW hS hf
        unfold f_X12_crash_39 at hf
        obtain ⟨z9, hf⟩ := hf
        refine gm_putI (C := RX12) (T := TX12) (N := 68) (j := 5) hx hb hts inT_12 tyX12 tyX12_ok nmX12 hown hK hW hS k4 (by decide) rfl (by decide) rfl (hts _ kw_1321) rfl rfl (bz_n z9) (bz_f z9) dX12_crash_39 (fun H locs M10 eM10 hW hS => ?_)
        replace hf := hf M10 eM10
        exact j42 _ _ _ _ (lv_sub hl [] rfl) hW hS hf
      refine lv_if_ne (tgt := 38) hx hb dX12_crash_31 (by decide) (fun c11 => ?_) (fun c11 => ?_)
      · replace hf := hf.1 c11
        refine lv_iconst (v := 0) hx hb dX12_crash_38 (by decide +kernel) ?_
        exact j39 _ _ _ _ (lv_sub hl [] rfl) hW hS hf
      · replace hf := hf.2 c11
        refine lv_iconst (v := 1) hx hb dX12_crash_34 (by decide +kernel) ?_
        refine lv_goto (tgt := 39) hx hb dX12_crash_35 (by decide) ?_
        exact j39 _ _ _ _ (lv_sub hl [] rfl) hW hS hf
  have j17 : ∀ (H : Heap) (locs : List Loc) (ls : Array Slot), lv_has ls 2 [(0, .ref v0), (1, .int v1)] → Wd D cy A Y M H → va_S A s.heap H locs → f_X12_crash_17 Y v0 v1 M Kn  → W p l e rm_X12_crash s m args below meth c H locs 0 0 (MQ below (va_Qv Kn (BG D cy A Y) A) args s 0 0 A) (F0 m 17 ls [.ref v0]) := by
    intro  H locs ls hl hW hS hf
    unfold f_X12_crash_17 at hf
    refine lv_iconst (v := 0) hx hb dX12_crash_17 (by decide +kernel) ?_
    exact j18 _ _ _ _ (lv_sub hl [0, 1] rfl) hW hS hf
  refine lv_icmp_lt (tgt := 17) hx hb dX12_crash_3 (by decide) (fun c12 => ?_) (fun c12 => ?_)
  · replace hf := hf.1 c12
    exact j17  _ _ _ (lv_sub hl [0, 1] rfl) hW hS hf
  · replace hf := hf.2 c12
    refine lv_iload_n hx hb dX12_crash_6 rfl (lv_at hl 1 rfl) ?_
    refine lv_sipush (v := 1000) hx hb dX12_crash_7 (by decide +kernel) ?_
    refine lv_icmp_gt (tgt := 17) hx hb dX12_crash_10 (by decide) (fun c13 => ?_) (fun c13 => ?_)
    · replace hf := hf.1 c13
      exact j17  _ _ _ (lv_sub hl [0, 1] rfl) hW hS hf
    · replace hf := hf.2 c13
      refine lv_iconst (v := 1) hx hb dX12_crash_13 (by decide +kernel) ?_
      refine lv_goto (tgt := 18) hx hb dX12_crash_14 (by decide) ?_
      exact j18 _ _ _ _ (lv_sub hl [0, 1] rfl) hW hS hf

abbrev rm_X12_recover : Room := { frames := 6, cells := 0, slots := 0, locals := 177 }
def f_X12_recover_62 (Y : Ly) (x7 : Int32) (again25 : Int32 → Mm → Prop) (M11 : Mm) (b13 : Nat) (y14 : Int32) : Prop :=
  yK Y b13 = 101 ∧ (vp_in x7 (yN Y b13) ∧ (∀ M17 : Mm, M17 = sI M11 b13 (m1 (mI M11 b13) x7.toNatClampNeg y14) → (∀ x18 : Int32, x18 = x7 + 1 → (again25 x18 M17))))
def L_X12_recover_25 (Y : Ly) (v0 : Nat) (Kn : Int32 → Mm → Prop) (x7 : Int32) (M8 : Mm) (again25 : Int32 → Mm → Prop) : Prop :=
  (8 ≤ x7 → (Kn (mI M8 v0 18) M8)) ∧ (¬ (8 ≤ x7) → (f_X12_empties Y v0 x7 M8 (fun M10 => (f_X12_noted Y v0 x7 255 M10 (fun r12 M11 => (∃ b13 : Nat, mR M11 v0 35 = some b13 ∧ ((0 ≤ r12 → (f_X12_recover_62 Y x7 again25 M11 b13 r12.toInt32)) ∧ (¬ (0 ≤ r12) → (f_X12_recover_62 Y x7 again25 M11 b13 0)))))))))
def f_X12_recover (Y : Ly) (v0 : Nat) (M : Mm) (Kn : Int32 → Mm → Prop) : Prop :=
  yK Y v0 = 12 ∧ (∀ M2 : Mm, M2 = sI M v0 (m1 (mI M v0) 0 0) → (bz 0 ∧ (∀ M4 : Mm, M4 = sI M2 v0 (m1 (mI M2 v0) 5 0) → (∀ M5 : Mm, M5 = sI M4 v0 (m1 (mI M4 v0) 7 (-1)) → (∀ M6 : Mm, M6 = sJ M5 v0 (m1 (mJ M5 v0) 9 (mJ M5 v0 8)) → (∃ n, LOOP2 (L_X12_recover_25 Y v0 Kn) n 0 M6))))))
set_option maxHeartbeats 4000000 in
set_option maxRecDepth 100000 in
theorem m_X12_recover (l : Launch) (D : va_G) (cy : Cy) (tq sz : Nat) (Y : Ly) (v0 : Nat) (M : Mm) (Kn : Int32 → Mm → Prop) : Met l yX12_recover (Cond.code yX12_recover cX12_recover 4 (some .int) :: TT) rm_X12_recover (PcG D cy tq [.ref v0] sz Y M (f_X12_recover Y v0 M Kn)) (va_Qi Kn (BG D cy (Am Y sz) Y) (Am Y sz)) 0 0 (Am Y sz) := by
  refine Met.ofW (cc := cX12_recover) (maxL := 4) (ret := (some .int)) (by decide) rfl ?_
  intro p e s m args below meth c s₁ B hml hv
  obtain ⟨hargs, hsz, hW, hK, hC, hf⟩ := hv
  subst hsz
  have hx := B.exec
  have hb := B.bytes
  have hr := B.returns
  have hts : ∀ w ∈ TT, w.before args s = true := fun w h => atoms_spec (ws := Cond.code yX12_recover cX12_recover 4 (some .int) :: TT) B.pre w (List.mem_cons_of_mem _ h)
  have hown : s.vm.findClass RX12 = some m.cls := findClass_of_methodNamed B.named
  have hlocks := B.notSynchronized
  replace hW := Wd_self (sz := s.heap.size) hW
  generalize hAe : Am Y s.heap.size = A at hW hC ⊢
  have hA : ∀ q : Nat, s.heap.size ≤ q → A q := fun q h => by rw [← hAe]; exact Or.inr h
  clear hAe
  have hS : va_S A s.heap s.heap [] := va_S.rf
  obtain ⟨ls, hE, hl⟩ := gm_entry m [.ref v0] (n := 4) hargs (Nat.le_of_ble_eq_true rfl)
  rw [hE]
  have hl : lv_has ls 4 [(0, .ref v0)] := hl
  show W p l e rm_X12_recover s m args below meth c s.heap [] 0 0 (MQ below (va_Qi Kn (BG D cy A Y) A) args s 0 0 A) (F0 m 0 ls [])
  unfold f_X12_recover at hf
  refine lv_aload_n hx hb dX12_recover_0 rfl (lv_at hl 0 rfl) ?_
  refine lv_iconst (v := 0) hx hb dX12_recover_1 (by decide +kernel) ?_
  obtain ⟨k1, hf⟩ := hf
  refine gm_putI (C := RX12) (T := TX12) (N := 68) (j := 0) hx hb hts inT_12 tyX12 tyX12_ok nmX12 hown hK hW hS k1 (by decide) rfl (by decide) rfl (hts _ kw_1316) rfl rfl rfl rfl dX12_recover_2 (fun H locs M2 eM2 hW hS => ?_)
  replace hf := hf M2 eM2
  refine lv_aload_n hx hb dX12_recover_5 rfl (lv_at hl 0 rfl) ?_
  refine lv_iconst (v := 0) hx hb dX12_recover_6 (by decide +kernel) ?_
  obtain ⟨z3, hf⟩ := hf
  refine gm_putI (C := RX12) (T := TX12) (N := 68) (j := 5) hx hb hts inT_12 tyX12 tyX12_ok nmX12 hown hK hW hS k1 (by decide) rfl (by decide) rfl (hts _ kw_1321) rfl rfl (bz_n z3) (bz_f z3) dX12_recover_7 (fun H locs M4 eM4 hW hS => ?_)
  replace hf := hf M4 eM4
  refine lv_aload_n hx hb dX12_recover_10 rfl (lv_at hl 0 rfl) ?_
  refine lv_iconst (v := -1) hx hb dX12_recover_11 (by decide +kernel) ?_
  refine gm_putI (C := RX12) (T := TX12) (N := 68) (j := 7) hx hb hts inT_12 tyX12 tyX12_ok nmX12 hown hK hW hS k1 (by decide) rfl (by decide) rfl (hts _ kw_1323) rfl rfl rfl rfl dX12_recover_12 (fun H locs M5 eM5 hW hS => ?_)
  replace hf := hf M5 eM5
  refine lv_aload_n hx hb dX12_recover_15 rfl (lv_at hl 0 rfl) ?_
  refine lv_aload_n hx hb dX12_recover_16 rfl (lv_at hl 0 rfl) ?_
  refine gm_getJ (C := RX12) (T := TX12) (N := 68) (j := 8) hx hb hts inT_12 hown hK hW k1 (by decide) rfl (by decide) rfl (hts _ kw_1324) rfl dX12_recover_17 ?_
  refine gm_putJ (C := RX12) (T := TX12) (N := 68) (j := 9) hx hb hts inT_12 tyX12 tyX12_ok nmX12 hown hK hW hS k1 (by decide) rfl (by decide) rfl (hts _ kw_1325) rfl rfl rfl rfl dX12_recover_20 (fun H locs M6 eM6 hW hS => ?_)
  replace hf := hf M6 eM6
  refine lv_iconst (v := 0) hx hb dX12_recover_23 (by decide +kernel) ?_
  refine lv_istore_n (lv' := [(1, .int 0), (0, .ref v0)]) hx hb dX12_recover_24 rfl hl (by decide) rfl (fun ls hl => ?_)
  obtain ⟨n25, hf⟩ := hf
  have lp25 : ∀ (n25 : Nat) (x7 : Int32) (M8 : Mm) (H : Heap) (locs : List Loc) (ls : Array Slot), lv_has ls 4 [(0, .ref v0), (1, .int x7)] → Wd D cy A Y M8 H → va_S A s.heap H locs → LOOP2 (L_X12_recover_25 Y v0 Kn) n25 x7 M8 → W p l e rm_X12_recover s m args below meth c H locs 0 0 (MQ below (va_Qi Kn (BG D cy A Y) A) args s 0 0 A) (F0 m 25 ls []) := by
    intro n25
    induction n25 with
    | zero => intro x7 M8 H locs ls hl hW hS hf; exact hf.elim
    | succ n25 ih25 =>
      intro x7 M8 H locs ls hl hW hS hf
      replace hf : L_X12_recover_25 Y v0 Kn x7 M8 (LOOP2 (L_X12_recover_25 Y v0 Kn) n25) := hf
      unfold L_X12_recover_25 at hf
      refine lv_iload_n hx hb dX12_recover_25 rfl (lv_at hl 1 rfl) ?_
      refine lv_bipush (v := 8) hx hb dX12_recover_26 (by decide +kernel) ?_
      refine lv_icmp_ge (tgt := 69) hx hb dX12_recover_28 (by decide) (fun c9 => ?_) (fun c9 => ?_)
      · replace hf := hf.1 c9
        refine lv_aload_n hx hb dX12_recover_69 rfl (lv_at hl 0 rfl) ?_
        refine gm_getI (C := RX12) (T := TX12) (N := 68) (j := 18) hx hb hts inT_12 hown hK hW k1 (by decide) rfl (by decide) rfl (hts _ kw_1334) rfl dX12_recover_70 ?_
        exact gm_iret hx hb hr hlocks hW hS hf dX12_recover_73
      · replace hf := hf.2 c9
        refine lv_aload_n hx hb dX12_recover_31 rfl (lv_at hl 0 rfl) ?_
        refine lv_iload_n hx hb dX12_recover_32 rfl (lv_at hl 1 rfl) ?_
        refine gm_cv (va_runV (As := [.int x7]) (rest := []) ⟨hx, hb, hml, hown, hts⟩ (m_X12_empties l D cy tq _ Y _ _ _ _) (cwV 1 hts (good_V kw_1708 kw_1709 kw_1869 kw_12 kw_1710) rfl rfl rfl (by decide +kernel) ⟨Nat.le_of_ble_eq_true rfl, Nat.le_of_ble_eq_true rfl⟩) (gm_preV hK hW hC hS hA k1 (by decide) (q := (RX12, TX12, 68)) rfl rfl hf) rfl rfl hl.1 rfl (lv_room (Nat.le_of_ble_eq_true rfl)) dX12_recover_33 ⟨Nat.le_of_ble_eq_true rfl, Nat.le_of_ble_eq_true rfl⟩) hW hS hA (fun M10 H locs hW hS hf => ?_)
        refine lv_aload_n hx hb dX12_recover_36 rfl (lv_at hl 0 rfl) ?_
        refine lv_iload_n hx hb dX12_recover_37 rfl (lv_at hl 1 rfl) ?_
        refine lv_sipush (v := 255) hx hb dX12_recover_38 (by decide +kernel) ?_
        refine gm_cl (va_runV (As := [.int x7, .int 255]) (rest := []) ⟨hx, hb, hml, hown, hts⟩ (m_X12_noted l D cy tq _ Y _ _ _ _ _) (cwV 2 hts (good_V kw_1737 kw_1738 kw_1873 kw_12 kw_1739) rfl rfl rfl (by decide +kernel) ⟨Nat.le_of_ble_eq_true rfl, Nat.le_of_ble_eq_true rfl⟩) (gm_preV hK hW hC hS hA k1 (by decide) (q := (RX12, TX12, 68)) rfl rfl hf) rfl rfl hl.1 rfl (lv_room (Nat.le_of_ble_eq_true rfl)) dX12_recover_41 ⟨Nat.le_of_ble_eq_true rfl, Nat.le_of_ble_eq_true rfl⟩) hW hS hA (fun r12 M11 H locs hW hS hf => ?_)
        refine lv_lstore_n (lv' := [(2, .long r12), (0, .ref v0), (1, .int x7)]) hx hb dX12_recover_44 rfl hl (by decide) rfl (fun ls hl => ?_)
        refine lv_aload_n hx hb dX12_recover_45 rfl (lv_at hl 1 rfl) ?_
        obtain ⟨b13, hb13, hf⟩ := hf
        refine gm_getR (C := RX12) (T := TX12) (N := 68) (j := 35) hx hb hts inT_12 hown hK hW k1 (by decide) rfl (by decide) rfl (hts _ kw_1351) rfl dX12_recover_46 hb13 ?_
        refine lv_iload_n hx hb dX12_recover_49 rfl (lv_at hl 2 rfl) ?_
        refine lv_lload_n hx hb dX12_recover_50 rfl (lv_at hl 0 rfl) ?_
        refine lv_lconst (v := 0) hx hb dX12_recover_51 (by decide) ?_
        refine W.lcmp hx hb dX12_recover_52 ?_
        have j62 : ∀ (y14 : Int32) (H : Heap) (locs : List Loc) (ls : Array Slot), lv_has ls 4 [(0, .ref v0), (1, .int x7)] → Wd D cy A Y M11 H → va_S A s.heap H locs → f_X12_recover_62 Y x7 (LOOP2 (L_X12_recover_25 Y v0 Kn) n25) M11 b13 y14 → W p l e rm_X12_recover s m args below meth c H locs 0 0 (MQ below (va_Qi Kn (BG D cy A Y) A) args s 0 0 A) (F0 m 62 ls [.int y14, .int x7, .ref b13]) := by
          intro y14 H locs ls hl hW hS hf
          unfold f_X12_recover_62 at hf
          obtain ⟨k15, hf⟩ := hf
          obtain ⟨h16, hf⟩ := hf
          refine gm_iast hx hb hK hW hS k15 h16 dX12_recover_62 (fun H locs M17 eM17 hW hS => ?_)
          replace hf := hf M17 eM17
          obtain ⟨x18, ex18⟩ : ∃ y : Int32, y = x7 + 1 := ⟨_, rfl⟩
          replace hf := hf x18 ex18
          refine lv_iinc (v := x18) (lv' := [(1, .int x18), (0, .ref v0)]) hx hb dX12_recover_63 hl (k := 1) rfl (by rw [ex18]; rfl) (by decide) rfl (fun ls hl => ?_)
          refine lv_goto (tgt := 25) hx hb dX12_recover_66 (by decide) ?_
          exact ih25 _ _ _ _ _ (lv_sub hl [1, 0] rfl) hW hS hf
        refine lv_if_ge (tgt := 60) hx hb dX12_recover_53 (by decide) (fun c19 => ?_) (fun c19 => ?_)
        · replace hf := hf.1 (lg_ge.mp c19)
          refine lv_lload_n hx hb dX12_recover_60 rfl (lv_at hl 0 rfl) ?_
          refine lv_l2i hx hb dX12_recover_61 rfl ?_
          exact j62 _ _ _ _ (lv_sub hl [1, 2] rfl) hW hS hf
        · replace hf := hf.2 (fun z => c19 (lg_ge.mpr z))
          refine lv_iconst (v := 0) hx hb dX12_recover_56 (by decide +kernel) ?_
          refine lv_goto (tgt := 62) hx hb dX12_recover_57 (by decide) ?_
          exact j62 _ _ _ _ (lv_sub hl [1, 2] rfl) hW hS hf
  exact lp25 n25 _ _ _ _ _ (lv_sub hl [1, 0] rfl) hW hS hf

abbrev rm_X12_isDown : Room := { frames := 2, cells := 0, slots := 0, locals := 80 }
def f_X12_isDown (Y : Ly) (v0 : Nat) (M : Mm) (Kn : Int32 → Mm → Prop) : Prop :=
  yK Y v0 = 12 ∧ (∀ M2 : Mm, M2 = sI M v0 (m1 (mI M v0) 0 0) → (bz (mI M2 v0 5) ∧ Kn (mI M2 v0 5) M2))
set_option maxHeartbeats 4000000 in
set_option maxRecDepth 100000 in
theorem m_X12_isDown (l : Launch) (D : va_G) (cy : Cy) (tq sz : Nat) (Y : Ly) (v0 : Nat) (M : Mm) (Kn : Int32 → Mm → Prop) : Met l yX12_isDown (Cond.code yX12_isDown cX12_isDown 1 (some .boolean) :: TT) rm_X12_isDown (PcG D cy tq [.ref v0] sz Y M (f_X12_isDown Y v0 M Kn)) (va_Qi Kn (BG D cy (Am Y sz) Y) (Am Y sz)) 0 0 (Am Y sz) := by
  refine Met.ofW (cc := cX12_isDown) (maxL := 1) (ret := (some .boolean)) (by decide) rfl ?_
  intro p e s m args below meth c s₁ B hml hv
  obtain ⟨hargs, hsz, hW, hK, hC, hf⟩ := hv
  subst hsz
  have hx := B.exec
  have hb := B.bytes
  have hr := B.returns
  have hts : ∀ w ∈ TT, w.before args s = true := fun w h => atoms_spec (ws := Cond.code yX12_isDown cX12_isDown 1 (some .boolean) :: TT) B.pre w (List.mem_cons_of_mem _ h)
  have hown : s.vm.findClass RX12 = some m.cls := findClass_of_methodNamed B.named
  have hlocks := B.notSynchronized
  replace hW := Wd_self (sz := s.heap.size) hW
  generalize hAe : Am Y s.heap.size = A at hW hC ⊢
  have hA : ∀ q : Nat, s.heap.size ≤ q → A q := fun q h => by rw [← hAe]; exact Or.inr h
  clear hAe
  have hS : va_S A s.heap s.heap [] := va_S.rf
  obtain ⟨ls, hE, hl⟩ := gm_entry m [.ref v0] (n := 1) hargs (Nat.le_of_ble_eq_true rfl)
  rw [hE]
  have hl : lv_has ls 1 [(0, .ref v0)] := hl
  show W p l e rm_X12_isDown s m args below meth c s.heap [] 0 0 (MQ below (va_Qi Kn (BG D cy A Y) A) args s 0 0 A) (F0 m 0 ls [])
  unfold f_X12_isDown at hf
  refine lv_aload_n hx hb dX12_isDown_0 rfl (lv_at hl 0 rfl) ?_
  refine lv_iconst (v := 0) hx hb dX12_isDown_1 (by decide +kernel) ?_
  obtain ⟨k1, hf⟩ := hf
  refine gm_putI (C := RX12) (T := TX12) (N := 68) (j := 0) hx hb hts inT_12 tyX12 tyX12_ok nmX12 hown hK hW hS k1 (by decide) rfl (by decide) rfl (hts _ kw_1316) rfl rfl rfl rfl dX12_isDown_2 (fun H locs M2 eM2 hW hS => ?_)
  replace hf := hf M2 eM2
  refine lv_aload_n hx hb dX12_isDown_5 rfl (lv_at hl 0 rfl) ?_
  refine gm_getI (C := RX12) (T := TX12) (N := 68) (j := 5) hx hb hts inT_12 hown hK hW k1 (by decide) rfl (by decide) rfl (hts _ kw_1321) rfl dX12_isDown_6 ?_
  exact gm_zret hx hb hr hlocks hW hS hf.1 hf.2 dX12_isDown_9

abbrev rm_X12_writes : Room := { frames := 2, cells := 0, slots := 0, locals := 80 }
def f_X12_writes (Y : Ly) (v0 : Nat) (M : Mm) (Kn : Int32 → Mm → Prop) : Prop :=
  yK Y v0 = 12 ∧ (∀ M2 : Mm, M2 = sI M v0 (m1 (mI M v0) 0 0) → (Kn (mI M2 v0 6) M2))
set_option maxHeartbeats 4000000 in
set_option maxRecDepth 100000 in
theorem m_X12_writes (l : Launch) (D : va_G) (cy : Cy) (tq sz : Nat) (Y : Ly) (v0 : Nat) (M : Mm) (Kn : Int32 → Mm → Prop) : Met l yX12_writes (Cond.code yX12_writes cX12_writes 1 (some .int) :: TT) rm_X12_writes (PcG D cy tq [.ref v0] sz Y M (f_X12_writes Y v0 M Kn)) (va_Qi Kn (BG D cy (Am Y sz) Y) (Am Y sz)) 0 0 (Am Y sz) := by
  refine Met.ofW (cc := cX12_writes) (maxL := 1) (ret := (some .int)) (by decide) rfl ?_
  intro p e s m args below meth c s₁ B hml hv
  obtain ⟨hargs, hsz, hW, hK, hC, hf⟩ := hv
  subst hsz
  have hx := B.exec
  have hb := B.bytes
  have hr := B.returns
  have hts : ∀ w ∈ TT, w.before args s = true := fun w h => atoms_spec (ws := Cond.code yX12_writes cX12_writes 1 (some .int) :: TT) B.pre w (List.mem_cons_of_mem _ h)
  have hown : s.vm.findClass RX12 = some m.cls := findClass_of_methodNamed B.named
  have hlocks := B.notSynchronized
  replace hW := Wd_self (sz := s.heap.size) hW
  generalize hAe : Am Y s.heap.size = A at hW hC ⊢
  have hA : ∀ q : Nat, s.heap.size ≤ q → A q := fun q h => by rw [← hAe]; exact Or.inr h
  clear hAe
  have hS : va_S A s.heap s.heap [] := va_S.rf
  obtain ⟨ls, hE, hl⟩ := gm_entry m [.ref v0] (n := 1) hargs (Nat.le_of_ble_eq_true rfl)
  rw [hE]
  have hl : lv_has ls 1 [(0, .ref v0)] := hl
  show W p l e rm_X12_writes s m args below meth c s.heap [] 0 0 (MQ below (va_Qi Kn (BG D cy A Y) A) args s 0 0 A) (F0 m 0 ls [])
  unfold f_X12_writes at hf
  refine lv_aload_n hx hb dX12_writes_0 rfl (lv_at hl 0 rfl) ?_
  refine lv_iconst (v := 0) hx hb dX12_writes_1 (by decide +kernel) ?_
  obtain ⟨k1, hf⟩ := hf
  refine gm_putI (C := RX12) (T := TX12) (N := 68) (j := 0) hx hb hts inT_12 tyX12 tyX12_ok nmX12 hown hK hW hS k1 (by decide) rfl (by decide) rfl (hts _ kw_1316) rfl rfl rfl rfl dX12_writes_2 (fun H locs M2 eM2 hW hS => ?_)
  replace hf := hf M2 eM2
  refine lv_aload_n hx hb dX12_writes_5 rfl (lv_at hl 0 rfl) ?_
  refine gm_getI (C := RX12) (T := TX12) (N := 68) (j := 6) hx hb hts inT_12 hown hK hW k1 (by decide) rfl (by decide) rfl (hts _ kw_1322) rfl dX12_writes_6 ?_
  exact gm_iret hx hb hr hlocks hW hS hf dX12_writes_9

abbrev rm_X12_free : Room := { frames := 4, cells := 0, slots := 0, locals := 124 }
def f_X12_free_56 (Y : Ly) (x6 : Int32) (x7 : Int32) (again33 : Int32 → Int32 → Prop) (y12 : Int32) : Prop :=
  ∀ x13 : Int32, x13 = x6 + y12 → (∀ x14 : Int32, x14 = x7 + 1 → (again33 x13 x14))
def L_X12_free_33 (Y : Ly) (v0 : Nat) (Kn : Int32 → Mm → Prop) (M5 : Mm) (x6 : Int32) (x7 : Int32) (again33 : Int32 → Int32 → Prop) : Prop :=
  ((mI M5 v0 3) ≤ x7 → (Kn x6 M5)) ∧ (¬ ((mI M5 v0 3) ≤ x7) → (∃ b9 : Nat, mR M5 v0 31 = some b9 ∧ (yK Y b9 = 103 ∧ (vp_in x7 (yN Y b9) ∧ (((mI M5 b9 x7.toNatClampNeg) = 0 → (f_X12_free_56 Y x6 x7 again33 1)) ∧ (¬ ((mI M5 b9 x7.toNatClampNeg) = 0) → (f_X12_free_56 Y x6 x7 again33 0)))))))
def f_X12_free_13 (Y : Ly) (v0 : Nat) (M : Mm) (Kn : Int32 → Mm → Prop) (y2 : Int32) : Prop :=
  ∀ M3 : Mm, M3 = sI M v0 (m1 (mI M v0) 0 y2) → (((mI M3 v0 0) ≤ 0 → (f_X12_mark Y v0 M3 (fun M5 => (∃ n, LOOP2 (L_X12_free_33 Y v0 Kn M5) n 0 0)))) ∧ (¬ ((mI M3 v0 0) ≤ 0) → (Kn 0 M3)))
def f_X12_free (Y : Ly) (v0 : Nat) (M : Mm) (Kn : Int32 → Mm → Prop) : Prop :=
  yK Y v0 = 12 ∧ (((mI M v0 5) = 0 → (f_X12_free_13 Y v0 M Kn 0)) ∧ (¬ ((mI M v0 5) = 0) → (f_X12_free_13 Y v0 M Kn 1)))
set_option maxHeartbeats 4000000 in
set_option maxRecDepth 100000 in
theorem m_X12_free (l : Launch) (D : va_G) (cy : Cy) (tq sz : Nat) (Y : Ly) (v0 : Nat) (M : Mm) (Kn : Int32 → Mm → Prop) : Met l yX12_free (Cond.code yX12_free cX12_free 3 (some .int) :: TT) rm_X12_free (PcG D cy tq [.ref v0] sz Y M (f_X12_free Y v0 M Kn)) (va_Qi Kn (BG D cy (Am Y sz) Y) (Am Y sz)) 0 0 (Am Y sz) := by
  refine Met.ofW (cc := cX12_free) (maxL := 3) (ret := (some .int)) (by decide) rfl ?_
  intro p e s m args below meth c s₁ B hml hv
  obtain ⟨hargs, hsz, hW, hK, hC, hf⟩ := hv
  subst hsz
  have hx := B.exec
  have hb := B.bytes
  have hr := B.returns
  have hts : ∀ w ∈ TT, w.before args s = true := fun w h => atoms_spec (ws := Cond.code yX12_free cX12_free 3 (some .int) :: TT) B.pre w (List.mem_cons_of_mem _ h)
  have hown : s.vm.findClass RX12 = some m.cls := findClass_of_methodNamed B.named
  have hlocks := B.notSynchronized
  replace hW := Wd_self (sz := s.heap.size) hW
  generalize hAe : Am Y s.heap.size = A at hW hC ⊢
  have hA : ∀ q : Nat, s.heap.size ≤ q → A q := fun q h => by rw [← hAe]; exact Or.inr h
  clear hAe
  have hS : va_S A s.heap s.heap [] := va_S.rf
  obtain ⟨ls, hE, hl⟩ := gm_entry m [.ref v0] (n := 3) hargs (Nat.le_of_ble_eq_true rfl)
  rw [hE]
  have hl : lv_has ls 3 [(0, .ref v0)] := hl
  show W p l e rm_X12_free s m args below meth c s.heap [] 0 0 (MQ below (va_Qi Kn (BG D cy A Y) A) args s 0 0 A) (F0 m 0 ls [])
  unfold f_X12_free at hf
  refine lv_aload_n hx hb dX12_free_0 rfl (lv_at hl 0 rfl) ?_
  refine lv_aload_n hx hb dX12_free_1 rfl (lv_at hl 0 rfl) ?_
  obtain ⟨k1, hf⟩ := hf
  refine gm_getI (C := RX12) (T := TX12) (N := 68) (j := 5) hx hb hts inT_12 hown hK hW k1 (by decide) rfl (by decide) rfl (hts _ kw_1321) rfl dX12_free_2 ?_
  have j13 : ∀ (y2 : Int32) (H : Heap) (locs : List Loc) (ls : Array Slot), lv_has ls 3 [(0, .ref v0)] → Wd D cy A Y M H → va_S A s.heap H locs → f_X12_free_13 Y v0 M Kn y2 → W p l e rm_X12_free s m args below meth c H locs 0 0 (MQ below (va_Qi Kn (BG D cy A Y) A) args s 0 0 A) (F0 m 13 ls [.int y2, .ref v0]) := by
    intro y2 H locs ls hl hW hS hf
    unfold f_X12_free_13 at hf
    refine gm_putI (C := RX12) (T := TX12) (N := 68) (j := 0) hx hb hts inT_12 tyX12 tyX12_ok nmX12 hown hK hW hS k1 (by decide) rfl (by decide) rfl (hts _ kw_1316) rfl rfl rfl rfl dX12_free_13 (fun H locs M3 eM3 hW hS => ?_)
    replace hf := hf M3 eM3
    refine lv_aload_n hx hb dX12_free_16 rfl (lv_at hl 0 rfl) ?_
    refine gm_getI (C := RX12) (T := TX12) (N := 68) (j := 0) hx hb hts inT_12 hown hK hW k1 (by decide) rfl (by decide) rfl (hts _ kw_1316) rfl dX12_free_17 ?_
    refine lv_if_le (tgt := 25) hx hb dX12_free_20 (by decide) (fun c4 => ?_) (fun c4 => ?_)
    · replace hf := hf.1 c4
      refine lv_aload_n hx hb dX12_free_25 rfl (lv_at hl 0 rfl) ?_
      refine gm_cv (va_runV (As := []) (rest := []) ⟨hx, hb, hml, hown, hts⟩ (m_X12_mark l D cy tq _ Y _ _ _) (cwV 0 hts (good_V kw_1599 kw_1600 kw_1847 kw_12 kw_1601) rfl rfl rfl (by decide +kernel) ⟨Nat.le_of_ble_eq_true rfl, Nat.le_of_ble_eq_true rfl⟩) (gm_preV hK hW hC hS hA k1 (by decide) (q := (RX12, TX12, 68)) rfl rfl hf) rfl rfl hl.1 rfl (lv_room (Nat.le_of_ble_eq_true rfl)) dX12_free_26 ⟨Nat.le_of_ble_eq_true rfl, Nat.le_of_ble_eq_true rfl⟩) hW hS hA (fun M5 H locs hW hS hf => ?_)
      refine lv_iconst (v := 0) hx hb dX12_free_29 (by decide +kernel) ?_
      refine lv_istore_n (lv' := [(1, .int 0), (0, .ref v0)]) hx hb dX12_free_30 rfl hl (by decide) rfl (fun ls hl => ?_)
      refine lv_iconst (v := 0) hx hb dX12_free_31 (by decide +kernel) ?_
      refine lv_istore_n (lv' := [(2, .int 0), (1, .int 0), (0, .ref v0)]) hx hb dX12_free_32 rfl hl (by decide) rfl (fun ls hl => ?_)
      obtain ⟨n33, hf⟩ := hf
      have lp33 : ∀ (n33 : Nat) (x6 : Int32) (x7 : Int32) (H : Heap) (locs : List Loc) (ls : Array Slot), lv_has ls 3 [(0, .ref v0), (1, .int x6), (2, .int x7)] → Wd D cy A Y M5 H → va_S A s.heap H locs → LOOP2 (L_X12_free_33 Y v0 Kn M5) n33 x6 x7 → W p l e rm_X12_free s m args below meth c H locs 0 0 (MQ below (va_Qi Kn (BG D cy A Y) A) args s 0 0 A) (F0 m 33 ls []) := by
        intro n33
        induction n33 with
        | zero => intro x6 x7 H locs ls hl hW hS hf; exact hf.elim
        | succ n33 ih33 =>
          intro x6 x7 H locs ls hl hW hS hf
          replace hf : L_X12_free_33 Y v0 Kn M5 x6 x7 (LOOP2 (L_X12_free_33 Y v0 Kn M5) n33) := hf
          unfold L_X12_free_33 at hf
          refine lv_iload_n hx hb dX12_free_33 rfl (lv_at hl 2 rfl) ?_
          refine lv_aload_n hx hb dX12_free_34 rfl (lv_at hl 0 rfl) ?_
          refine gm_getI (C := RX12) (T := TX12) (N := 68) (j := 3) hx hb hts inT_12 hown hK hW k1 (by decide) rfl (by decide) rfl (hts _ kw_1319) rfl dX12_free_35 ?_
          refine lv_icmp_ge (tgt := 64) hx hb dX12_free_38 (by decide) (fun c8 => ?_) (fun c8 => ?_)
          · replace hf := hf.1 c8
            refine lv_iload_n hx hb dX12_free_64 rfl (lv_at hl 1 rfl) ?_
            exact gm_iret hx hb hr hlocks hW hS hf dX12_free_65
          · replace hf := hf.2 c8
            refine lv_iload_n hx hb dX12_free_41 rfl (lv_at hl 1 rfl) ?_
            refine lv_aload_n hx hb dX12_free_42 rfl (lv_at hl 0 rfl) ?_
            obtain ⟨b9, hb9, hf⟩ := hf
            refine gm_getR (C := RX12) (T := TX12) (N := 68) (j := 31) hx hb hts inT_12 hown hK hW k1 (by decide) rfl (by decide) rfl (hts _ kw_1347) rfl dX12_free_43 hb9 ?_
            refine lv_iload_n hx hb dX12_free_46 rfl (lv_at hl 2 rfl) ?_
            obtain ⟨k10, hf⟩ := hf
            obtain ⟨h11, hf⟩ := hf
            refine gm_zald hx hb hK hW k10 h11 dX12_free_47 ?_
            have j56 : ∀ (y12 : Int32) (H : Heap) (locs : List Loc) (ls : Array Slot), lv_has ls 3 [(0, .ref v0), (2, .int x7)] → Wd D cy A Y M5 H → va_S A s.heap H locs → f_X12_free_56 Y x6 x7 (LOOP2 (L_X12_free_33 Y v0 Kn M5) n33) y12 → W p l e rm_X12_free s m args below meth c H locs 0 0 (MQ below (va_Qi Kn (BG D cy A Y) A) args s 0 0 A) (F0 m 56 ls [.int y12, .int x6]) := by
              intro y12 H locs ls hl hW hS hf
              unfold f_X12_free_56 at hf
              refine lv_iadd hx hb dX12_free_56 ?_
              refine lv_topi (fun x13 ex13 => ?_)
              replace hf := hf x13 ex13
              refine lv_istore_n (lv' := [(1, .int x13), (0, .ref v0), (2, .int x7)]) hx hb dX12_free_57 rfl hl (by decide) rfl (fun ls hl => ?_)
              obtain ⟨x14, ex14⟩ : ∃ y : Int32, y = x7 + 1 := ⟨_, rfl⟩
              replace hf := hf x14 ex14
              refine lv_iinc (v := x14) (lv' := [(2, .int x14), (1, .int x13), (0, .ref v0)]) hx hb dX12_free_58 hl (k := 2) rfl (by rw [ex14]; rfl) (by decide) rfl (fun ls hl => ?_)
              refine lv_goto (tgt := 33) hx hb dX12_free_61 (by decide) ?_
              exact ih33 _ _ _ _ _ (lv_sub hl [2, 1, 0] rfl) hW hS hf
            refine lv_if_eq (tgt := 55) hx hb dX12_free_48 (by decide) (fun c15 => ?_) (fun c15 => ?_)
            · replace hf := hf.1 c15
              refine lv_iconst (v := 1) hx hb dX12_free_55 (by decide +kernel) ?_
              exact j56 _ _ _ _ (lv_sub hl [0, 2] rfl) hW hS hf
            · replace hf := hf.2 c15
              refine lv_iconst (v := 0) hx hb dX12_free_51 (by decide +kernel) ?_
              refine lv_goto (tgt := 56) hx hb dX12_free_52 (by decide) ?_
              exact j56 _ _ _ _ (lv_sub hl [0, 2] rfl) hW hS hf
      exact lp33 n33 _ _ _ _ _ (lv_sub hl [2, 1, 0] rfl) hW hS hf
    · replace hf := hf.2 c4
      refine lv_iconst (v := 0) hx hb dX12_free_23 (by decide +kernel) ?_
      exact gm_iret hx hb hr hlocks hW hS hf dX12_free_24
  refine lv_if_eq (tgt := 12) hx hb dX12_free_5 (by decide) (fun c16 => ?_) (fun c16 => ?_)
  · replace hf := hf.1 c16
    refine lv_iconst (v := 0) hx hb dX12_free_12 (by decide +kernel) ?_
    exact j13 _ _ _ _ (lv_sub hl [0] rfl) hW hS hf
  · replace hf := hf.2 c16
    refine lv_iconst (v := 1) hx hb dX12_free_8 (by decide +kernel) ?_
    refine lv_goto (tgt := 13) hx hb dX12_free_9 (by decide) ?_
    exact j13 _ _ _ _ (lv_sub hl [0] rfl) hW hS hf

abbrev rm_X12_audit : Room := { frames := 2, cells := 0, slots := 0, locals := 80 }
def f_X12_audit_13 (Y : Ly) (v0 : Nat) (M : Mm) (Kn : Int32 → Mm → Prop) (y2 : Int32) : Prop :=
  ∀ M3 : Mm, M3 = sI M v0 (m1 (mI M v0) 0 y2) → (Kn 0 M3)
def f_X12_audit (Y : Ly) (v0 : Nat) (M : Mm) (Kn : Int32 → Mm → Prop) : Prop :=
  yK Y v0 = 12 ∧ (((mI M v0 5) = 0 → (f_X12_audit_13 Y v0 M Kn 0)) ∧ (¬ ((mI M v0 5) = 0) → (f_X12_audit_13 Y v0 M Kn 1)))
set_option maxHeartbeats 4000000 in
set_option maxRecDepth 100000 in
theorem m_X12_audit (l : Launch) (D : va_G) (cy : Cy) (tq sz : Nat) (Y : Ly) (v0 : Nat) (M : Mm) (Kn : Int32 → Mm → Prop) : Met l yX12_audit (Cond.code yX12_audit cX12_audit 1 (some .int) :: TT) rm_X12_audit (PcG D cy tq [.ref v0] sz Y M (f_X12_audit Y v0 M Kn)) (va_Qi Kn (BG D cy (Am Y sz) Y) (Am Y sz)) 0 0 (Am Y sz) := by
  refine Met.ofW (cc := cX12_audit) (maxL := 1) (ret := (some .int)) (by decide) rfl ?_
  intro p e s m args below meth c s₁ B hml hv
  obtain ⟨hargs, hsz, hW, hK, hC, hf⟩ := hv
  subst hsz
  have hx := B.exec
  have hb := B.bytes
  have hr := B.returns
  have hts : ∀ w ∈ TT, w.before args s = true := fun w h => atoms_spec (ws := Cond.code yX12_audit cX12_audit 1 (some .int) :: TT) B.pre w (List.mem_cons_of_mem _ h)
  have hown : s.vm.findClass RX12 = some m.cls := findClass_of_methodNamed B.named
  have hlocks := B.notSynchronized
  replace hW := Wd_self (sz := s.heap.size) hW
  generalize hAe : Am Y s.heap.size = A at hW hC ⊢
  have hA : ∀ q : Nat, s.heap.size ≤ q → A q := fun q h => by rw [← hAe]; exact Or.inr h
  clear hAe
  have hS : va_S A s.heap s.heap [] := va_S.rf
  obtain ⟨ls, hE, hl⟩ := gm_entry m [.ref v0] (n := 1) hargs (Nat.le_of_ble_eq_true rfl)
  rw [hE]
  have hl : lv_has ls 1 [(0, .ref v0)] := hl
  show W p l e rm_X12_audit s m args below meth c s.heap [] 0 0 (MQ below (va_Qi Kn (BG D cy A Y) A) args s 0 0 A) (F0 m 0 ls [])
  unfold f_X12_audit at hf
  refine lv_aload_n hx hb dX12_audit_0 rfl (lv_at hl 0 rfl) ?_
  refine lv_aload_n hx hb dX12_audit_1 rfl (lv_at hl 0 rfl) ?_
  obtain ⟨k1, hf⟩ := hf
  refine gm_getI (C := RX12) (T := TX12) (N := 68) (j := 5) hx hb hts inT_12 hown hK hW k1 (by decide) rfl (by decide) rfl (hts _ kw_1321) rfl dX12_audit_2 ?_
  have j13 : ∀ (y2 : Int32) (H : Heap) (locs : List Loc) (ls : Array Slot), lv_has ls 1 [] → Wd D cy A Y M H → va_S A s.heap H locs → f_X12_audit_13 Y v0 M Kn y2 → W p l e rm_X12_audit s m args below meth c H locs 0 0 (MQ below (va_Qi Kn (BG D cy A Y) A) args s 0 0 A) (F0 m 13 ls [.int y2, .ref v0]) := by
    intro y2 H locs ls hl hW hS hf
    unfold f_X12_audit_13 at hf
    refine gm_putI (C := RX12) (T := TX12) (N := 68) (j := 0) hx hb hts inT_12 tyX12 tyX12_ok nmX12 hown hK hW hS k1 (by decide) rfl (by decide) rfl (hts _ kw_1316) rfl rfl rfl rfl dX12_audit_13 (fun H locs M3 eM3 hW hS => ?_)
    replace hf := hf M3 eM3
    refine lv_iconst (v := 0) hx hb dX12_audit_16 (by decide +kernel) ?_
    exact gm_iret hx hb hr hlocks hW hS hf dX12_audit_17
  refine lv_if_eq (tgt := 12) hx hb dX12_audit_5 (by decide) (fun c4 => ?_) (fun c4 => ?_)
  · replace hf := hf.1 c4
    refine lv_iconst (v := 0) hx hb dX12_audit_12 (by decide +kernel) ?_
    exact j13 _ _ _ _ (lv_sub hl [] rfl) hW hS hf
  · replace hf := hf.2 c4
    refine lv_iconst (v := 1) hx hb dX12_audit_8 (by decide +kernel) ?_
    refine lv_goto (tgt := 13) hx hb dX12_audit_9 (by decide) ?_
    exact j13 _ _ _ _ (lv_sub hl [] rfl) hW hS hf
