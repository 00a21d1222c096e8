/-! by gen.py: what the methods do, and that they do it -/
abbrev rm_X1_unsigned : Room := { frames := 2, cells := 0, slots := 0, locals := 80 }
def L_X1_unsigned_5 (Y : Ly) (v0 : Nat) (v1 : Int32) (v2 : Int32) (M : Mm) (Kn : Int64 → Mm → Prop) (x1 : Int64) (x2 : Int32) (again5 : Int64 → Int32 → Prop) : Prop :=
  (v2 ≤ x2 → (Kn x1 M)) ∧ (¬ (v2 ≤ x2) → (yK Y v0 = 100 ∧ (vp_in (v1 + x2) (yN Y v0) ∧ (∀ x6 : Int64, x6 = (x1 <<< ((8 : Int32).toInt64 &&& 63)) ||| (((mI M v0 (v1 + x2).toNatClampNeg) &&& 255).toInt64) → (∀ x7 : Int32, x7 = x2 + 1 → (again5 x6 x7))))))
def f_X1_unsigned (Y : Ly) (v0 : Nat) (v1 : Int32) (v2 : Int32) (M : Mm) (Kn : Int64 → Mm → Prop) : Prop :=
  ∃ n, LOOP2 (L_X1_unsigned_5 Y v0 v1 v2 M Kn) n 0 0
set_option maxHeartbeats 4000000 in
set_option maxRecDepth 100000 in
theorem m_X1_unsigned (l : Launch) (D : va_G) (cy : Cy) (tq sz : Nat) (Y : Ly) (v0 : Nat) (v1 : Int32) (v2 : Int32) (M : Mm) (Kn : Int64 → Mm → Prop) : Met l yX1_unsigned (Cond.code yX1_unsigned cX1_unsigned 6 (some .long) :: TT) rm_X1_unsigned (PcG D cy tq [.ref v0, .int v1, .int v2] sz Y M (f_X1_unsigned Y v0 v1 v2 M Kn)) (va_Ql Kn (BG D cy (Am Y sz) Y) (Am Y sz)) 0 0 (Am Y sz) := by
  refine Met.ofW (cc := cX1_unsigned) (maxL := 6) (ret := (some .long)) (by decide) rfl ?_
  intro p e s m args below meth c s₁ B hml hv
  obtain ⟨hargs, hsz, hW, hK, hC, hf⟩ := hv
  subst hsz
  have hx := B.exec
  have hb := B.bytes
  have hr := B.returns
  have hts : ∀ w ∈ TT, w.before args s = true := fun w h => atoms_spec (ws := Cond.code yX1_unsigned cX1_unsigned 6 (some .long) :: TT) B.pre w (List.mem_cons_of_mem _ h)
  have hown : s.vm.findClass RX1 = some m.cls := findClass_of_methodNamed B.named
  have hlocks := B.notSynchronized
  replace hW := Wd_self (sz := s.heap.size) hW
  generalize hAe : Am Y s.heap.size = A at hW hC ⊢
  have hA : ∀ q : Nat, s.heap.size ≤ q → A q := fun q h => by rw [← hAe]; exact Or.inr h
  clear hAe
  have hS : va_S A s.heap s.heap [] := va_S.rf
  obtain ⟨ls, hE, hl⟩ := gm_entry m [.ref v0, .int v1, .int v2] (n := 6) hargs (Nat.le_of_ble_eq_true rfl)
  rw [hE]
  have hl : lv_has ls 6 [(0, .ref v0), (1, .int v1), (2, .int v2)] := hl
  show W p l e rm_X1_unsigned s m args below meth c s.heap [] 0 0 (MQ below (va_Ql Kn (BG D cy A Y) A) args s 0 0 A) (F0 m 0 ls [])
  unfold f_X1_unsigned at hf
  refine lv_lconst (v := 0) hx hb dX1_unsigned_0 (by decide) ?_
  refine lv_lstore_n (lv' := [(3, .long 0), (0, .ref v0), (1, .int v1), (2, .int v2)]) hx hb dX1_unsigned_1 rfl hl (by decide) rfl (fun ls hl => ?_)
  refine lv_iconst (v := 0) hx hb dX1_unsigned_2 (by decide +kernel) ?_
  refine lv_istore (lv' := [(5, .int 0), (3, .long 0), (0, .ref v0), (1, .int v1), (2, .int v2)]) hx hb dX1_unsigned_3 hl (by decide) rfl (fun ls hl => ?_)
  obtain ⟨n5, hf⟩ := hf
  have lp5 : ∀ (n5 : Nat) (x1 : Int64) (x2 : Int32) (H : Heap) (locs : List Loc) (ls : Array Slot), lv_has ls 6 [(0, .ref v0), (1, .int v1), (2, .int v2), (3, .long x1), (5, .int x2)] → Wd D cy A Y M H → va_S A s.heap H locs → LOOP2 (L_X1_unsigned_5 Y v0 v1 v2 M Kn) n5 x1 x2 → W p l e rm_X1_unsigned s m args below meth c H locs 0 0 (MQ below (va_Ql Kn (BG D cy A Y) A) args s 0 0 A) (F0 m 5 ls []) := by
    intro n5
    induction n5 with
    | zero => intro x1 x2 H locs ls hl hW hS hf; exact hf.elim
    | succ n5 ih5 =>
      intro x1 x2 H locs ls hl hW hS hf
      replace hf : L_X1_unsigned_5 Y v0 v1 v2 M Kn x1 x2 (LOOP2 (L_X1_unsigned_5 Y v0 v1 v2 M Kn) n5) := hf
      unfold L_X1_unsigned_5 at hf
      refine lv_iload hx hb dX1_unsigned_5 (lv_at hl 4 rfl) ?_
      refine lv_iload_n hx hb dX1_unsigned_7 rfl (lv_at hl 2 rfl) ?_
      refine lv_icmp_ge (tgt := 34) hx hb dX1_unsigned_8 (by decide) (fun c3 => ?_) (fun c3 => ?_)
      · replace hf := hf.1 c3
        refine lv_lload_n hx hb dX1_unsigned_34 rfl (lv_at hl 3 rfl) ?_
        exact gm_lret hx hb hr hlocks hW hS hf dX1_unsigned_35
      · replace hf := hf.2 c3
        refine lv_lload_n hx hb dX1_unsigned_11 rfl (lv_at hl 3 rfl) ?_
        refine lv_bipush (v := 8) hx hb dX1_unsigned_12 (by decide +kernel) ?_
        refine lv_lshl hx hb dX1_unsigned_14 rfl ?_
        refine lv_aload_n hx hb dX1_unsigned_15 rfl (lv_at hl 0 rfl) ?_
        refine lv_iload_n hx hb dX1_unsigned_16 rfl (lv_at hl 1 rfl) ?_
        refine lv_iload hx hb dX1_unsigned_17 (lv_at hl 4 rfl) ?_
        refine lv_iadd hx hb dX1_unsigned_19 ?_
        obtain ⟨k4, hf⟩ := hf
        obtain ⟨h5, hf⟩ := hf
        refine gm_bald hx hb hK hW k4 h5 dX1_unsigned_20 ?_
        refine lv_sipush (v := 255) hx hb dX1_unsigned_21 (by decide +kernel) ?_
        refine lv_iand hx hb dX1_unsigned_24 ?_
        refine lv_i2l hx hb dX1_unsigned_25 rfl ?_
        refine lv_lor hx hb dX1_unsigned_26 ?_
        refine lv_topl (fun x6 ex6 => ?_)
        replace hf := hf x6 ex6
        refine lv_lstore_n (lv' := [(3, .long x6), (0, .ref v0), (1, .int v1), (2, .int v2), (5, .int x2)]) hx hb dX1_unsigned_27 rfl hl (by decide) rfl (fun ls hl => ?_)
        obtain ⟨x7, ex7⟩ : ∃ y : Int32, y = x2 + 1 := ⟨_, rfl⟩
        replace hf := hf x7 ex7
        refine lv_iinc (v := x7) (lv' := [(5, .int x7), (3, .long x6), (0, .ref v0), (1, .int v1), (2, .int v2)]) hx hb dX1_unsigned_28 hl (k := 4) rfl (by rw [ex7]; rfl) (by decide) rfl (fun ls hl => ?_)
        refine lv_goto (tgt := 5) hx hb dX1_unsigned_31 (by decide) ?_
        exact ih5 _ _ _ _ _ (lv_sub hl [2, 3, 4, 1, 0] rfl) hW hS hf
  exact lp5 n5 _ _ _ _ _ (lv_sub hl [2, 3, 4, 1, 0] rfl) hW hS hf

abbrev rm_X1_signed : Room := { frames := 3, cells := 0, slots := 0, locals := 105 }
def f_X1_signed (Y : Ly) (v0 : Nat) (v1 : Int32) (v2 : Int32) (M : Mm) (Kn : Int64 → Mm → Prop) : Prop :=
  ∀ x1 : Int32, x1 = 64 - (8 * v2) → (f_X1_unsigned Y v0 v1 v2 M (fun r3 M2 => (Kn ((r3 <<< (x1.toInt64 &&& 63)) >>> (x1.toInt64 &&& 63)) M2)))
set_option maxHeartbeats 4000000 in
set_option maxRecDepth 100000 in
theorem m_X1_signed (l : Launch) (D : va_G) (cy : Cy) (tq sz : Nat) (Y : Ly) (v0 : Nat) (v1 : Int32) (v2 : Int32) (M : Mm) (Kn : Int64 → Mm → Prop) : Met l yX1_signed (Cond.code yX1_signed cX1_signed 4 (some .long) :: TT) rm_X1_signed (PcG D cy tq [.ref v0, .int v1, .int v2] sz Y M (f_X1_signed Y v0 v1 v2 M Kn)) (va_Ql Kn (BG D cy (Am Y sz) Y) (Am Y sz)) 0 0 (Am Y sz) := by
  refine Met.ofW (cc := cX1_signed) (maxL := 4) (ret := (some .long)) (by decide) rfl ?_
  intro p e s m args below meth c s₁ B hml hv
  obtain ⟨hargs, hsz, hW, hK, hC, hf⟩ := hv
  subst hsz
  have hx := B.exec
  have hb := B.bytes
  have hr := B.returns
  have hts : ∀ w ∈ TT, w.before args s = true := fun w h => atoms_spec (ws := Cond.code yX1_signed cX1_signed 4 (some .long) :: TT) B.pre w (List.mem_cons_of_mem _ h)
  have hown : s.vm.findClass RX1 = some m.cls := findClass_of_methodNamed B.named
  have hlocks := B.notSynchronized
  replace hW := Wd_self (sz := s.heap.size) hW
  generalize hAe : Am Y s.heap.size = A at hW hC ⊢
  have hA : ∀ q : Nat, s.heap.size ≤ q → A q := fun q h => by rw [← hAe]; exact Or.inr h
  clear hAe
  have hS : va_S A s.heap s.heap [] := va_S.rf
  obtain ⟨ls, hE, hl⟩ := gm_entry m [.ref v0, .int v1, .int v2] (n := 4) hargs (Nat.le_of_ble_eq_true rfl)
  rw [hE]
  have hl : lv_has ls 4 [(0, .ref v0), (1, .int v1), (2, .int v2)] := hl
  show W p l e rm_X1_signed s m args below meth c s.heap [] 0 0 (MQ below (va_Ql Kn (BG D cy A Y) A) args s 0 0 A) (F0 m 0 ls [])
  unfold f_X1_signed at hf
  refine lv_bipush (v := 64) hx hb dX1_signed_0 (by decide +kernel) ?_
  refine lv_bipush (v := 8) hx hb dX1_signed_2 (by decide +kernel) ?_
  refine lv_iload_n hx hb dX1_signed_4 rfl (lv_at hl 2 rfl) ?_
  refine lv_imul hx hb dX1_signed_5 ?_
  refine lv_isub hx hb dX1_signed_6 ?_
  refine lv_topi (fun x1 ex1 => ?_)
  replace hf := hf x1 ex1
  refine lv_istore_n (lv' := [(3, .int x1), (0, .ref v0), (1, .int v1), (2, .int v2)]) hx hb dX1_signed_7 rfl hl (by decide) rfl (fun ls hl => ?_)
  refine lv_aload_n hx hb dX1_signed_8 rfl (lv_at hl 1 rfl) ?_
  refine lv_iload_n hx hb dX1_signed_9 rfl (lv_at hl 2 rfl) ?_
  refine lv_iload_n hx hb dX1_signed_10 rfl (lv_at hl 3 rfl) ?_
  refine gm_cl (va_runS (As := [.ref v0, .int v1, .int v2]) (rest := []) ⟨hx, hb, hml, hown, hts⟩ (m_X1_unsigned l D cy tq _ Y _ _ _ _ _) (va_cwS 3 hts (good_S kw_331 kw_332 kw_17 kw_333) rfl rfl rfl (by decide +kernel) ⟨Nat.le_of_ble_eq_true rfl, Nat.le_of_ble_eq_true rfl⟩) (gm_preS hK hW hC hS hA hf) rfl rfl hl.1 rfl (lv_room (Nat.le_of_ble_eq_true rfl)) dX1_signed_11 ⟨Nat.le_of_ble_eq_true rfl, Nat.le_of_ble_eq_true rfl⟩) hW hS hA (fun r3 M2 H locs hW hS hf => ?_)
  refine lv_iload_n hx hb dX1_signed_14 rfl (lv_at hl 0 rfl) ?_
  refine lv_lshl hx hb dX1_signed_15 rfl ?_
  refine lv_iload_n hx hb dX1_signed_16 rfl (lv_at hl 0 rfl) ?_
  refine lv_lshr hx hb dX1_signed_17 rfl ?_
  exact gm_lret hx hb hr hlocks hW hS hf dX1_signed_18

abbrev rm_X1_checksum : Room := { frames := 2, cells := 0, slots := 0, locals := 80 }
def L_X1_checksum_5 (Y : Ly) (v0 : Nat) (v2 : Int32) (M : Mm) (Kn : Int32 → Mm → Prop) (x1 : Int32) (x2 : Int32) (again5 : Int32 → Int32 → Prop) : Prop :=
  (v2 ≤ x2 → (Kn (x1 ^^^ (-1)) M)) ∧ (¬ (v2 ≤ x2) → (yK Y v0 = 100 ∧ (vp_in x2 (yN Y v0) ∧ (∀ x6 : Int32, x6 = x1 ^^^ ((mI M v0 x2.toNatClampNeg) &&& 255) → (vp_in (x6 &&& 15) 16 ∧ (∀ x8 : Int32, x8 = ((x6.toUInt32 >>> ((4 : Int32).toUInt32 &&& Int32.toUInt32 31)).toInt32) ^^^ (c4_tab.getD (x6 &&& 15).toNatClampNeg 0) → (vp_in (x8 &&& 15) 16 ∧ (∀ x10 : Int32, x10 = ((x8.toUInt32 >>> ((4 : Int32).toUInt32 &&& Int32.toUInt32 31)).toInt32) ^^^ (c4_tab.getD (x8 &&& 15).toNatClampNeg 0) → (∀ x11 : Int32, x11 = x2 + 1 → (again5 x10 x11))))))))))
def f_X1_checksum (Y : Ly) (v0 : Nat) (v1 : Int32) (v2 : Int32) (M : Mm) (Kn : Int32 → Mm → Prop) : Prop :=
  ∃ n, LOOP2 (L_X1_checksum_5 Y v0 v2 M Kn) n (-1) v1
set_option maxHeartbeats 4000000 in
set_option maxRecDepth 100000 in
theorem m_X1_checksum (l : Launch) (D : va_G) (cy : Cy) (tq sz : Nat) (Y : Ly) (v0 : Nat) (v1 : Int32) (v2 : Int32) (M : Mm) (Kn : Int32 → Mm → Prop) : Met l yX1_checksum (Cond.code yX1_checksum cX1_checksum 5 (some .int) :: TT) rm_X1_checksum (PcG D cy tq [.ref v0, .int v1, .int v2] sz Y M (f_X1_checksum Y v0 v1 v2 M Kn)) (va_Qi Kn (BG D cy (Am Y sz) Y) (Am Y sz)) 0 0 (Am Y sz) := by
  refine Met.ofW (cc := cX1_checksum) (maxL := 5) (ret := (some .int)) (by decide) rfl ?_
  intro p e s m args below meth c s₁ B hml hv
  obtain ⟨hargs, hsz, hW, hK, hC, hf⟩ := hv
  subst hsz
  have hx := B.exec
  have hb := B.bytes
  have hr := B.returns
  have hts : ∀ w ∈ TT, w.before args s = true := fun w h => atoms_spec (ws := Cond.code yX1_checksum cX1_checksum 5 (some .int) :: TT) B.pre w (List.mem_cons_of_mem _ h)
  have hown : s.vm.findClass RX1 = some m.cls := findClass_of_methodNamed B.named
  have hlocks := B.notSynchronized
  replace hW := Wd_self (sz := s.heap.size) hW
  generalize hAe : Am Y s.heap.size = A at hW hC ⊢
  have hA : ∀ q : Nat, s.heap.size ≤ q → A q := fun q h => by rw [← hAe]; exact Or.inr h
  clear hAe
  have hS : va_S A s.heap s.heap [] := va_S.rf
  obtain ⟨ls, hE, hl⟩ := gm_entry m [.ref v0, .int v1, .int v2] (n := 5) hargs (Nat.le_of_ble_eq_true rfl)
  rw [hE]
  have hl : lv_has ls 5 [(0, .ref v0), (1, .int v1), (2, .int v2)] := hl
  show W p l e rm_X1_checksum s m args below meth c s.heap [] 0 0 (MQ below (va_Qi Kn (BG D cy A Y) A) args s 0 0 A) (F0 m 0 ls [])
  unfold f_X1_checksum at hf
  refine lv_iconst (v := -1) hx hb dX1_checksum_0 (by decide +kernel) ?_
  refine lv_istore_n (lv' := [(3, .int (-1)), (0, .ref v0), (1, .int v1), (2, .int v2)]) hx hb dX1_checksum_1 rfl hl (by decide) rfl (fun ls hl => ?_)
  refine lv_iload_n hx hb dX1_checksum_2 rfl (lv_at hl 2 rfl) ?_
  refine lv_istore (lv' := [(4, .int v1), (3, .int (-1)), (0, .ref v0), (1, .int v1), (2, .int v2)]) hx hb dX1_checksum_3 hl (by decide) rfl (fun ls hl => ?_)
  obtain ⟨n5, hf⟩ := hf
  have lp5 : ∀ (n5 : Nat) (x1 : Int32) (x2 : Int32) (H : Heap) (locs : List Loc) (ls : Array Slot), lv_has ls 5 [(0, .ref v0), (2, .int v2), (3, .int x1), (4, .int x2)] → Wd D cy A Y M H → va_S A s.heap H locs → LOOP2 (L_X1_checksum_5 Y v0 v2 M Kn) n5 x1 x2 → W p l e rm_X1_checksum s m args below meth c H locs 0 0 (MQ below (va_Qi Kn (BG D cy A Y) A) args s 0 0 A) (F0 m 5 ls []) := by
    intro n5
    induction n5 with
    | zero => intro x1 x2 H locs ls hl hW hS hf; exact hf.elim
    | succ n5 ih5 =>
      intro x1 x2 H locs ls hl hW hS hf
      replace hf : L_X1_checksum_5 Y v0 v2 M Kn x1 x2 (LOOP2 (L_X1_checksum_5 Y v0 v2 M Kn) n5) := hf
      unfold L_X1_checksum_5 at hf
      refine lv_iload hx hb dX1_checksum_5 (lv_at hl 3 rfl) ?_
      refine lv_iload_n hx hb dX1_checksum_7 rfl (lv_at hl 1 rfl) ?_
      refine lv_icmp_ge (tgt := 54) hx hb dX1_checksum_8 (by decide) (fun c3 => ?_) (fun c3 => ?_)
      · replace hf := hf.1 c3
        refine lv_iload_n hx hb dX1_checksum_54 rfl (lv_at hl 2 rfl) ?_
        refine lv_iconst (v := -1) hx hb dX1_checksum_55 (by decide +kernel) ?_
        refine lv_ixor hx hb dX1_checksum_56 ?_
        exact gm_iret hx hb hr hlocks hW hS hf dX1_checksum_57
      · replace hf := hf.2 c3
        refine lv_iload_n hx hb dX1_checksum_11 rfl (lv_at hl 2 rfl) ?_
        refine lv_aload_n hx hb dX1_checksum_12 rfl (lv_at hl 0 rfl) ?_
        refine lv_iload hx hb dX1_checksum_13 (lv_at hl 3 rfl) ?_
        obtain ⟨k4, hf⟩ := hf
        obtain ⟨h5, hf⟩ := hf
        refine gm_bald hx hb hK hW k4 h5 dX1_checksum_15 ?_
        refine lv_sipush (v := 255) hx hb dX1_checksum_16 (by decide +kernel) ?_
        refine lv_iand hx hb dX1_checksum_19 ?_
        refine lv_ixor hx hb dX1_checksum_20 ?_
        refine lv_topi (fun x6 ex6 => ?_)
        replace hf := hf x6 ex6
        refine lv_istore_n (lv' := [(3, .int x6), (0, .ref v0), (2, .int v2), (4, .int x2)]) hx hb dX1_checksum_21 rfl hl (by decide) rfl (fun ls hl => ?_)
        refine lv_iload_n hx hb dX1_checksum_22 rfl (lv_at hl 0 rfl) ?_
        refine lv_iconst (v := 4) hx hb dX1_checksum_23 (by decide +kernel) ?_
        refine lv_iushr hx hb dX1_checksum_24 rfl ?_
        refine va_gets hx hb hC.1 hS hown (hts _ kw_758) (fun _ h => h) dX1_checksum_25 ?_
        refine lv_iload_n hx hb dX1_checksum_28 rfl (lv_at hl 0 rfl) ?_
        refine lv_bipush (v := 15) hx hb dX1_checksum_29 (by decide +kernel) ?_
        refine lv_iand hx hb dX1_checksum_31 ?_
        obtain ⟨h7, hf⟩ := hf
        refine va_ti hx hb hC.2.1 hS h7 rfl dX1_checksum_32 ?_
        refine lv_ixor hx hb dX1_checksum_33 ?_
        refine lv_topi (fun x8 ex8 => ?_)
        replace hf := hf x8 ex8
        refine lv_istore_n (lv' := [(3, .int x8), (0, .ref v0), (2, .int v2), (4, .int x2)]) hx hb dX1_checksum_34 rfl hl (by decide) rfl (fun ls hl => ?_)
        refine lv_iload_n hx hb dX1_checksum_35 rfl (lv_at hl 0 rfl) ?_
        refine lv_iconst (v := 4) hx hb dX1_checksum_36 (by decide +kernel) ?_
        refine lv_iushr hx hb dX1_checksum_37 rfl ?_
        refine va_gets hx hb hC.1 hS hown (hts _ kw_758) (fun _ h => h) dX1_checksum_38 ?_
        refine lv_iload_n hx hb dX1_checksum_41 rfl (lv_at hl 0 rfl) ?_
        refine lv_bipush (v := 15) hx hb dX1_checksum_42 (by decide +kernel) ?_
        refine lv_iand hx hb dX1_checksum_44 ?_
        obtain ⟨h9, hf⟩ := hf
        refine va_ti hx hb hC.2.1 hS h9 rfl dX1_checksum_45 ?_
        refine lv_ixor hx hb dX1_checksum_46 ?_
        refine lv_topi (fun x10 ex10 => ?_)
        replace hf := hf x10 ex10
        refine lv_istore_n (lv' := [(3, .int x10), (0, .ref v0), (2, .int v2), (4, .int x2)]) hx hb dX1_checksum_47 rfl hl (by decide) rfl (fun ls hl => ?_)
        obtain ⟨x11, ex11⟩ : ∃ y : Int32, y = x2 + 1 := ⟨_, rfl⟩
        replace hf := hf x11 ex11
        refine lv_iinc (v := x11) (lv' := [(4, .int x11), (3, .int x10), (0, .ref v0), (2, .int v2)]) hx hb dX1_checksum_48 hl (k := 3) rfl (by rw [ex11]; rfl) (by decide) rfl (fun ls hl => ?_)
        refine lv_goto (tgt := 5) hx hb dX1_checksum_51 (by decide) ?_
        exact ih5 _ _ _ _ _ (lv_sub hl [2, 3, 1, 0] rfl) hW hS hf
  exact lp5 n5 _ _ _ _ _ (lv_sub hl [2, 4, 1, 0] rfl) hW hS hf

abbrev rm_X1_put : Room := { frames := 2, cells := 0, slots := 0, locals := 80 }
def L_X1_put_3 (Y : Ly) (v0 : Nat) (v1 : Int32) (v2 : Int32) (v3 : Int64) (Kn : Mm → Prop) (x1 : Int32) (M2 : Mm) (again3 : Int32 → Mm → Prop) : Prop :=
  (v2 ≤ x1 → (Kn M2)) ∧ (¬ (v2 ≤ x1) → (yK Y v0 = 100 ∧ (vp_in (v1 + x1) (yN Y v0) ∧ (∀ M6 : Mm, M6 = sI M2 v0 (m1 (mI M2 v0) (v1 + x1).toNatClampNeg ((((v3 >>> ((8 * ((v2 - 1) - x1)).toInt64 &&& 63)).toInt32).toInt8.toInt32).toInt8.toInt32)) → (∀ x7 : Int32, x7 = x1 + 1 → (again3 x7 M6))))))
def f_X1_put (Y : Ly) (v0 : Nat) (v1 : Int32) (v2 : Int32) (v3 : Int64) (M : Mm) (Kn : Mm → Prop) : Prop :=
  ∃ n, LOOP2 (L_X1_put_3 Y v0 v1 v2 v3 Kn) n 0 M
set_option maxHeartbeats 4000000 in
set_option maxRecDepth 100000 in
theorem m_X1_put (l : Launch) (D : va_G) (cy : Cy) (tq sz : Nat) (Y : Ly) (v0 : Nat) (v1 : Int32) (v2 : Int32) (v3 : Int64) (M : Mm) (Kn : Mm → Prop) : Met l yX1_put (Cond.code yX1_put cX1_put 6 none :: TT) rm_X1_put (PcG D cy tq [.ref v0, .int v1, .int v2, .long v3] sz Y M (f_X1_put Y v0 v1 v2 v3 M Kn)) (va_Qv Kn (BG D cy (Am Y sz) Y) (Am Y sz)) 0 0 (Am Y sz) := by
  refine Met.ofW (cc := cX1_put) (maxL := 6) (ret := none) (by decide) rfl ?_
  intro p e s m args below meth c s₁ B hml hv
  obtain ⟨hargs, hsz, hW, hK, hC, hf⟩ := hv
  subst hsz
  have hx := B.exec
  have hb := B.bytes
  have hr := B.returns
  have hts : ∀ w ∈ TT, w.before args s = true := fun w h => atoms_spec (ws := Cond.code yX1_put cX1_put 6 none :: TT) B.pre w (List.mem_cons_of_mem _ h)
  have hown : s.vm.findClass RX1 = some m.cls := findClass_of_methodNamed B.named
  have hlocks := B.notSynchronized
  replace hW := Wd_self (sz := s.heap.size) hW
  generalize hAe : Am Y s.heap.size = A at hW hC ⊢
  have hA : ∀ q : Nat, s.heap.size ≤ q → A q := fun q h => by rw [← hAe]; exact Or.inr h
  clear hAe
  have hS : va_S A s.heap s.heap [] := va_S.rf
  obtain ⟨ls, hE, hl⟩ := gm_entry m [.ref v0, .int v1, .int v2, .long v3] (n := 6) hargs (Nat.le_of_ble_eq_true rfl)
  rw [hE]
  have hl : lv_has ls 6 [(0, .ref v0), (1, .int v1), (2, .int v2), (3, .long v3)] := hl
  show W p l e rm_X1_put s m args below meth c s.heap [] 0 0 (MQ below (va_Qv Kn (BG D cy A Y) A) args s 0 0 A) (F0 m 0 ls [])
  unfold f_X1_put at hf
  refine lv_iconst (v := 0) hx hb dX1_put_0 (by decide +kernel) ?_
  refine lv_istore (lv' := [(5, .int 0), (0, .ref v0), (1, .int v1), (2, .int v2), (3, .long v3)]) hx hb dX1_put_1 hl (by decide) rfl (fun ls hl => ?_)
  obtain ⟨n3, hf⟩ := hf
  have lp3 : ∀ (n3 : Nat) (x1 : Int32) (M2 : Mm) (H : Heap) (locs : List Loc) (ls : Array Slot), lv_has ls 6 [(0, .ref v0), (1, .int v1), (2, .int v2), (3, .long v3), (5, .int x1)] → Wd D cy A Y M2 H → va_S A s.heap H locs → LOOP2 (L_X1_put_3 Y v0 v1 v2 v3 Kn) n3 x1 M2 → W p l e rm_X1_put s m args below meth c H locs 0 0 (MQ below (va_Qv Kn (BG D cy A Y) A) args s 0 0 A) (F0 m 3 ls []) := by
    intro n3
    induction n3 with
    | zero => intro x1 M2 H locs ls hl hW hS hf; exact hf.elim
    | succ n3 ih3 =>
      intro x1 M2 H locs ls hl hW hS hf
      replace hf : L_X1_put_3 Y v0 v1 v2 v3 Kn x1 M2 (LOOP2 (L_X1_put_3 Y v0 v1 v2 v3 Kn) n3) := hf
      unfold L_X1_put_3 at hf
      refine lv_iload hx hb dX1_put_3 (lv_at hl 4 rfl) ?_
      refine lv_iload_n hx hb dX1_put_5 rfl (lv_at hl 2 rfl) ?_
      refine lv_icmp_ge (tgt := 34) hx hb dX1_put_6 (by decide) (fun c3 => ?_) (fun c3 => ?_)
      · replace hf := hf.1 c3
        exact gm_vret hx hb hr hlocks hW hS hf dX1_put_34
      · replace hf := hf.2 c3
        refine lv_aload_n hx hb dX1_put_9 rfl (lv_at hl 0 rfl) ?_
        refine lv_iload_n hx hb dX1_put_10 rfl (lv_at hl 1 rfl) ?_
        refine lv_iload hx hb dX1_put_11 (lv_at hl 4 rfl) ?_
        refine lv_iadd hx hb dX1_put_13 ?_
        refine lv_lload_n hx hb dX1_put_14 rfl (lv_at hl 3 rfl) ?_
        refine lv_bipush (v := 8) hx hb dX1_put_15 (by decide +kernel) ?_
        refine lv_iload_n hx hb dX1_put_17 rfl (lv_at hl 2 rfl) ?_
        refine lv_iconst (v := 1) hx hb dX1_put_18 (by decide +kernel) ?_
        refine lv_isub hx hb dX1_put_19 ?_
        refine lv_iload hx hb dX1_put_20 (lv_at hl 4 rfl) ?_
        refine lv_isub hx hb dX1_put_22 ?_
        refine lv_imul hx hb dX1_put_23 ?_
        refine lv_lshr hx hb dX1_put_24 rfl ?_
        refine lv_l2i hx hb dX1_put_25 rfl ?_
        refine lv_i2b hx hb dX1_put_26 rfl ?_
        obtain ⟨k4, hf⟩ := hf
        obtain ⟨h5, hf⟩ := hf
        refine gm_bast hx hb hK hW hS k4 h5 dX1_put_27 (fun H locs M6 eM6 hW hS => ?_)
        replace hf := hf M6 eM6
        obtain ⟨x7, ex7⟩ : ∃ y : Int32, y = x1 + 1 := ⟨_, rfl⟩
        replace hf := hf x7 ex7
        refine lv_iinc (v := x7) (lv' := [(5, .int x7), (0, .ref v0), (1, .int v1), (2, .int v2), (3, .long v3)]) hx hb dX1_put_28 hl (k := 4) rfl (by rw [ex7]; rfl) (by decide) rfl (fun ls hl => ?_)
        refine lv_goto (tgt := 3) hx hb dX1_put_31 (by decide) ?_
        exact ih3 _ _ _ _ _ (lv_sub hl [1, 2, 3, 4, 0] rfl) hW hS hf
  exact lp3 n3 _ _ _ _ _ (lv_sub hl [1, 2, 3, 4, 0] rfl) hW hS hf

abbrev rm_J7_rangeCheck_23922 : Room := { frames := 2, cells := 0, slots := 0, locals := 80 }
def f_J7_rangeCheck_23922 (Y : Ly) (v0 : Int32) (v1 : Int32) (v2 : Int32) (M : Mm) (Kn : Mm → Prop) : Prop :=
  (v1 ≤ v2 → ((0 ≤ v1 → ((v2 ≤ v0 → (Kn M)) ∧ (¬ (v2 ≤ v0) → (False)))) ∧ (¬ (0 ≤ v1) → (False)))) ∧ (¬ (v1 ≤ v2) → (False))
set_option maxHeartbeats 4000000 in
set_option maxRecDepth 100000 in
theorem m_J7_rangeCheck_23922 (l : Launch) (D : va_G) (cy : Cy) (tq sz : Nat) (Y : Ly) (v0 : Int32) (v1 : Int32) (v2 : Int32) (M : Mm) (Kn : Mm → Prop) : Met l yJ7_rangeCheck_23922 (Cond.code yJ7_rangeCheck_23922 cJ7_rangeCheck_23922 3 none :: TT) rm_J7_rangeCheck_23922 (PcG D cy tq [.int v0, .int v1, .int v2] sz Y M (f_J7_rangeCheck_23922 Y v0 v1 v2 M Kn)) (va_Qv Kn (BG D cy (Am Y sz) Y) (Am Y sz)) 0 0 (Am Y sz) := by
  refine Met.ofW (cc := cJ7_rangeCheck_23922) (maxL := 3) (ret := none) (by decide) rfl ?_
  intro p e s m args below meth c s₁ B hml hv
  obtain ⟨hargs, hsz, hW, hK, hC, hf⟩ := hv
  subst hsz
  have hx := B.exec
  have hb := B.bytes
  have hr := B.returns
  have hts : ∀ w ∈ TT, w.before args s = true := fun w h => atoms_spec (ws := Cond.code yJ7_rangeCheck_23922 cJ7_rangeCheck_23922 3 none :: TT) B.pre w (List.mem_cons_of_mem _ h)
  have hown : s.vm.findClass RJ7 = some m.cls := findClass_of_methodNamed B.named
  have hlocks := B.notSynchronized
  replace hW := Wd_self (sz := s.heap.size) hW
  generalize hAe : Am Y s.heap.size = A at hW hC ⊢
  have hA : ∀ q : Nat, s.heap.size ≤ q → A q := fun q h => by rw [← hAe]; exact Or.inr h
  clear hAe
  have hS : va_S A s.heap s.heap [] := va_S.rf
  obtain ⟨ls, hE, hl⟩ := gm_entry m [.int v0, .int v1, .int v2] (n := 3) hargs (Nat.le_of_ble_eq_true rfl)
  rw [hE]
  have hl : lv_has ls 3 [(0, .int v0), (1, .int v1), (2, .int v2)] := hl
  show W p l e rm_J7_rangeCheck_23922 s m args below meth c s.heap [] 0 0 (MQ below (va_Qv Kn (BG D cy A Y) A) args s 0 0 A) (F0 m 0 ls [])
  unfold f_J7_rangeCheck_23922 at hf
  refine lv_iload_n hx hb dJ7_rangeCheck_23922_0 rfl (lv_at hl 1 rfl) ?_
  refine lv_iload_n hx hb dJ7_rangeCheck_23922_1 rfl (lv_at hl 2 rfl) ?_
  refine lv_icmp_le (tgt := 46) hx hb dJ7_rangeCheck_23922_2 (by decide) (fun c1 => ?_) (fun c1 => ?_)
  · replace hf := hf.1 c1
    refine lv_iload_n hx hb dJ7_rangeCheck_23922_46 rfl (lv_at hl 1 rfl) ?_
    refine lv_if_ge (tgt := 59) hx hb dJ7_rangeCheck_23922_47 (by decide) (fun c2 => ?_) (fun c2 => ?_)
    · replace hf := hf.1 c2
      refine lv_iload_n hx hb dJ7_rangeCheck_23922_59 rfl (lv_at hl 2 rfl) ?_
      refine lv_iload_n hx hb dJ7_rangeCheck_23922_60 rfl (lv_at hl 0 rfl) ?_
      refine lv_icmp_le (tgt := 73) hx hb dJ7_rangeCheck_23922_61 (by decide) (fun c3 => ?_) (fun c3 => ?_)
      · replace hf := hf.1 c3
        exact gm_vret hx hb hr hlocks hW hS hf dJ7_rangeCheck_23922_73
      · replace hf := hf.2 c3
        exact hf.elim
    · replace hf := hf.2 c2
      exact hf.elim
  · replace hf := hf.2 c1
    exact hf.elim

abbrev rm_J7_fill_eb02e : Room := { frames := 3, cells := 0, slots := 0, locals := 102 }
def L_J7_fill_eb02e_10 (Y : Ly) (v0 : Nat) (v2 : Int32) (v3 : Int32) (Kn : Mm → Prop) (x3 : Int32) (M4 : Mm) (again10 : Int32 → Mm → Prop) : Prop :=
  (v2 ≤ x3 → (Kn M4)) ∧ (¬ (v2 ≤ x3) → (vp_in x3 (yN Y v0) ∧ (∀ M7 : Mm, M7 = sI M4 v0 (m1 (mI M4 v0) x3.toNatClampNeg v3.toInt8.toInt32) → (∀ x8 : Int32, x8 = x3 + 1 → (again10 x8 M7)))))
def f_J7_fill_eb02e (Y : Ly) (v0 : Nat) (v1 : Int32) (v2 : Int32) (v3 : Int32) (M : Mm) (Kn : Mm → Prop) : Prop :=
  yK Y v0 = 100 ∧ (f_J7_rangeCheck_23922 Y (nI (yN Y v0)) v1 v2 M (fun M2 => (∃ n, LOOP2 (L_J7_fill_eb02e_10 Y v0 v2 v3 Kn) n v1 M2)))
set_option maxHeartbeats 4000000 in
set_option maxRecDepth 100000 in
theorem m_J7_fill_eb02e (l : Launch) (D : va_G) (cy : Cy) (tq sz : Nat) (Y : Ly) (v0 : Nat) (v1 : Int32) (v2 : Int32) (v3 : Int32) (M : Mm) (Kn : Mm → Prop) : Met l yJ7_fill_eb02e (Cond.code yJ7_fill_eb02e cJ7_fill_eb02e 5 none :: TT) rm_J7_fill_eb02e (PcG D cy tq [.ref v0, .int v1, .int v2, .int v3] sz Y M (f_J7_fill_eb02e Y v0 v1 v2 v3 M Kn)) (va_Qv Kn (BG D cy (Am Y sz) Y) (Am Y sz)) 0 0 (Am Y sz) := by
  refine Met.ofW (cc := cJ7_fill_eb02e) (maxL := 5) (ret := none) (by decide) rfl ?_
  intro p e s m args below meth c s₁ B hml hv
  obtain ⟨hargs, hsz, hW, hK, hC, hf⟩ := hv
  subst hsz
  have hx := B.exec
  have hb := B.bytes
  have hr := B.returns
  have hts : ∀ w ∈ TT, w.before args s = true := fun w h => atoms_spec (ws := Cond.code yJ7_fill_eb02e cJ7_fill_eb02e 5 none :: TT) B.pre w (List.mem_cons_of_mem _ h)
  have hown : s.vm.findClass RJ7 = some m.cls := findClass_of_methodNamed B.named
  have hlocks := B.notSynchronized
  replace hW := Wd_self (sz := s.heap.size) hW
  generalize hAe : Am Y s.heap.size = A at hW hC ⊢
  have hA : ∀ q : Nat, s.heap.size ≤ q → A q := fun q h => by rw [← hAe]; exact Or.inr h
  clear hAe
  have hS : va_S A s.heap s.heap [] := va_S.rf
  obtain ⟨ls, hE, hl⟩ := gm_entry m [.ref v0, .int v1, .int v2, .int v3] (n := 5) hargs (Nat.le_of_ble_eq_true rfl)
  rw [hE]
  have hl : lv_has ls 5 [(0, .ref v0), (1, .int v1), (2, .int v2), (3, .int v3)] := hl
  show W p l e rm_J7_fill_eb02e s m args below meth c s.heap [] 0 0 (MQ below (va_Qv Kn (BG D cy A Y) A) args s 0 0 A) (F0 m 0 ls [])
  unfold f_J7_fill_eb02e at hf
  refine lv_aload_n hx hb dJ7_fill_eb02e_0 rfl (lv_at hl 0 rfl) ?_
  obtain ⟨k1, hf⟩ := hf
  refine gm_alen hx hb hK hW (by rw [k1]; decide) dJ7_fill_eb02e_1 ?_
  refine lv_iload_n hx hb dJ7_fill_eb02e_2 rfl (lv_at hl 1 rfl) ?_
  refine lv_iload_n hx hb dJ7_fill_eb02e_3 rfl (lv_at hl 2 rfl) ?_
  refine gm_cv (va_runS (As := [.int (nI (yN Y v0)), .int v1, .int v2]) (rest := []) ⟨hx, hb, hml, hown, hts⟩ (m_J7_rangeCheck_23922 l D cy tq _ Y _ _ _ _ _) (va_cwS 3 hts (good_S kw_541 kw_542 kw_21 kw_543) rfl rfl rfl (by decide +kernel) ⟨Nat.le_of_ble_eq_true rfl, Nat.le_of_ble_eq_true rfl⟩) (gm_preS hK hW hC hS hA hf) rfl rfl hl.1 rfl (lv_room (Nat.le_of_ble_eq_true rfl)) dJ7_fill_eb02e_4 ⟨Nat.le_of_ble_eq_true rfl, Nat.le_of_ble_eq_true rfl⟩) hW hS hA (fun M2 H locs hW hS hf => ?_)
  refine lv_iload_n hx hb dJ7_fill_eb02e_7 rfl (lv_at hl 1 rfl) ?_
  refine lv_istore (lv' := [(4, .int v1), (0, .ref v0), (1, .int v1), (2, .int v2), (3, .int v3)]) hx hb dJ7_fill_eb02e_8 hl (by decide) rfl (fun ls hl => ?_)
  obtain ⟨n10, hf⟩ := hf
  have lp10 : ∀ (n10 : Nat) (x3 : Int32) (M4 : Mm) (H : Heap) (locs : List Loc) (ls : Array Slot), lv_has ls 5 [(0, .ref v0), (2, .int v2), (3, .int v3), (4, .int x3)] → Wd D cy A Y M4 H → va_S A s.heap H locs → LOOP2 (L_J7_fill_eb02e_10 Y v0 v2 v3 Kn) n10 x3 M4 → W p l e rm_J7_fill_eb02e s m args below meth c H locs 0 0 (MQ below (va_Qv Kn (BG D cy A Y) A) args s 0 0 A) (F0 m 10 ls []) := by
    intro n10
    induction n10 with
    | zero => intro x3 M4 H locs ls hl hW hS hf; exact hf.elim
    | succ n10 ih10 =>
      intro x3 M4 H locs ls hl hW hS hf
      replace hf : L_J7_fill_eb02e_10 Y v0 v2 v3 Kn x3 M4 (LOOP2 (L_J7_fill_eb02e_10 Y v0 v2 v3 Kn) n10) := hf
      unfold L_J7_fill_eb02e_10 at hf
      refine lv_iload hx hb dJ7_fill_eb02e_10 (lv_at hl 3 rfl) ?_
      refine lv_iload_n hx hb dJ7_fill_eb02e_12 rfl (lv_at hl 1 rfl) ?_
      refine lv_icmp_ge (tgt := 27) hx hb dJ7_fill_eb02e_13 (by decide) (fun c5 => ?_) (fun c5 => ?_)
      · replace hf := hf.1 c5
        exact gm_vret hx hb hr hlocks hW hS hf dJ7_fill_eb02e_27
      · replace hf := hf.2 c5
        refine lv_aload_n hx hb dJ7_fill_eb02e_16 rfl (lv_at hl 0 rfl) ?_
        refine lv_iload hx hb dJ7_fill_eb02e_17 (lv_at hl 3 rfl) ?_
        refine lv_iload_n hx hb dJ7_fill_eb02e_19 rfl (lv_at hl 2 rfl) ?_
        obtain ⟨h6, hf⟩ := hf
        refine gm_bast hx hb hK hW hS k1 h6 dJ7_fill_eb02e_20 (fun H locs M7 eM7 hW hS => ?_)
        replace hf := hf M7 eM7
        obtain ⟨x8, ex8⟩ : ∃ y : Int32, y = x3 + 1 := ⟨_, rfl⟩
        replace hf := hf x8 ex8
        refine lv_iinc (v := x8) (lv' := [(4, .int x8), (0, .ref v0), (2, .int v2), (3, .int v3)]) hx hb dJ7_fill_eb02e_21 hl (k := 3) rfl (by rw [ex8]; rfl) (by decide) rfl (fun ls hl => ?_)
        refine lv_goto (tgt := 10) hx hb dJ7_fill_eb02e_24 (by decide) ?_
        exact ih10 _ _ _ _ _ (lv_sub hl [1, 2, 3, 0] rfl) hW hS hf
  exact lp10 n10 _ _ _ _ _ (lv_sub hl [1, 3, 4, 0] rfl) hW hS hf

abbrev rm_X1_turned : Room := { frames := 2, cells := 0, slots := 0, locals := 80 }
def f_X1_turned (Y : Ly) (v0 : Int64) (M : Mm) (Kn : Int64 → Mm → Prop) : Prop :=
  Kn ((v0 <<< ((1 : Int32).toInt64 &&& 63)) ^^^ (v0 >>> ((63 : Int32).toInt64 &&& 63))) M
set_option maxHeartbeats 4000000 in
set_option maxRecDepth 100000 in
theorem m_X1_turned (l : Launch) (D : va_G) (cy : Cy) (tq sz : Nat) (Y : Ly) (v0 : Int64) (M : Mm) (Kn : Int64 → Mm → Prop) : Met l yX1_turned (Cond.code yX1_turned cX1_turned 2 (some .long) :: TT) rm_X1_turned (PcG D cy tq [.long v0] sz Y M (f_X1_turned Y v0 M Kn)) (va_Ql Kn (BG D cy (Am Y sz) Y) (Am Y sz)) 0 0 (Am Y sz) := by
  refine Met.ofW (cc := cX1_turned) (maxL := 2) (ret := (some .long)) (by decide) rfl ?_
  intro p e s m args below meth c s₁ B hml hv
  obtain ⟨hargs, hsz, hW, hK, hC, hf⟩ := hv
  subst hsz
  have hx := B.exec
  have hb := B.bytes
  have hr := B.returns
  have hts : ∀ w ∈ TT, w.before args s = true := fun w h => atoms_spec (ws := Cond.code yX1_turned cX1_turned 2 (some .long) :: TT) B.pre w (List.mem_cons_of_mem _ h)
  have hown : s.vm.findClass RX1 = some m.cls := findClass_of_methodNamed B.named
  have hlocks := B.notSynchronized
  replace hW := Wd_self (sz := s.heap.size) hW
  generalize hAe : Am Y s.heap.size = A at hW hC ⊢
  have hA : ∀ q : Nat, s.heap.size ≤ q → A q := fun q h => by rw [← hAe]; exact Or.inr h
  clear hAe
  have hS : va_S A s.heap s.heap [] := va_S.rf
  obtain ⟨ls, hE, hl⟩ := gm_entry m [.long v0] (n := 2) hargs (Nat.le_of_ble_eq_true rfl)
  rw [hE]
  have hl : lv_has ls 2 [(0, .long v0)] := hl
  show W p l e rm_X1_turned s m args below meth c s.heap [] 0 0 (MQ below (va_Ql Kn (BG D cy A Y) A) args s 0 0 A) (F0 m 0 ls [])
  unfold f_X1_turned at hf
  refine lv_lload_n hx hb dX1_turned_0 rfl (lv_at hl 0 rfl) ?_
  refine lv_iconst (v := 1) hx hb dX1_turned_1 (by decide +kernel) ?_
  refine lv_lshl hx hb dX1_turned_2 rfl ?_
  refine lv_lload_n hx hb dX1_turned_3 rfl (lv_at hl 0 rfl) ?_
  refine lv_bipush (v := 63) hx hb dX1_turned_4 (by decide +kernel) ?_
  refine lv_lshr hx hb dX1_turned_6 rfl ?_
  refine lv_lxor hx hb dX1_turned_7 ?_
  exact gm_lret hx hb hr hlocks hW hS hf dX1_turned_8

abbrev rm_X1_varintBytes : Room := { frames := 3, cells := 0, slots := 0, locals := 101 }
def f_X1_varintBytes_41 (Y : Ly) (Kn : Int32 → Mm → Prop) (M1 : Mm) (x5 : Int32) : Prop :=
  Kn x5 M1
def L_X1_varintBytes_14 (Y : Ly) (Kn : Int32 → Mm → Prop) (M1 : Mm) (x4 : Int64) (x5 : Int32) (x6 : Int32) (again14 : Int64 → Int32 → Int32 → Prop) : Prop :=
  (9 ≤ x6 → (f_X1_varintBytes_41 Y Kn M1 x5)) ∧ (¬ (9 ≤ x6) → ((x4 = 0 → (f_X1_varintBytes_41 Y Kn M1 x5)) ∧ (¬ (x4 = 0) → (∀ x9 : Int64, x9 = (x4.toUInt64 >>> ((7 : Int32).toInt64.toUInt64 &&& Int64.toUInt64 63)).toInt64 → (∀ x10 : Int32, x10 = x5 + 1 → (∀ x11 : Int32, x11 = x6 + 1 → (again14 x9 x10 x11)))))))
def f_X1_varintBytes (Y : Ly) (v0 : Int64) (M : Mm) (Kn : Int32 → Mm → Prop) : Prop :=
  f_X1_turned Y v0 M (fun r2 M1 => (∀ x3 : Int64, x3 = (r2.toUInt64 >>> ((7 : Int32).toInt64.toUInt64 &&& Int64.toUInt64 63)).toInt64 → (∃ n, LOOP3 (L_X1_varintBytes_14 Y Kn M1) n x3 1 0)))
set_option maxHeartbeats 4000000 in
set_option maxRecDepth 100000 in
theorem m_X1_varintBytes (l : Launch) (D : va_G) (cy : Cy) (tq sz : Nat) (Y : Ly) (v0 : Int64) (M : Mm) (Kn : Int32 → Mm → Prop) : Met l yX1_varintBytes (Cond.code yX1_varintBytes cX1_varintBytes 6 (some .int) :: TT) rm_X1_varintBytes (PcG D cy tq [.long v0] sz Y M (f_X1_varintBytes Y v0 M Kn)) (va_Qi Kn (BG D cy (Am Y sz) Y) (Am Y sz)) 0 0 (Am Y sz) := by
  refine Met.ofW (cc := cX1_varintBytes) (maxL := 6) (ret := (some .int)) (by decide) rfl ?_
  intro p e s m args below meth c s₁ B hml hv
  obtain ⟨hargs, hsz, hW, hK, hC, hf⟩ := hv
  subst hsz
  have hx := B.exec
  have hb := B.bytes
  have hr := B.returns
  have hts : ∀ w ∈ TT, w.before args s = true := fun w h => atoms_spec (ws := Cond.code yX1_varintBytes cX1_varintBytes 6 (some .int) :: TT) B.pre w (List.mem_cons_of_mem _ h)
  have hown : s.vm.findClass RX1 = some m.cls := findClass_of_methodNamed B.named
  have hlocks := B.notSynchronized
  replace hW := Wd_self (sz := s.heap.size) hW
  generalize hAe : Am Y s.heap.size = A at hW hC ⊢
  have hA : ∀ q : Nat, s.heap.size ≤ q → A q := fun q h => by rw [← hAe]; exact Or.inr h
  clear hAe
  have hS : va_S A s.heap s.heap [] := va_S.rf
  obtain ⟨ls, hE, hl⟩ := gm_entry m [.long v0] (n := 6) hargs (Nat.le_of_ble_eq_true rfl)
  rw [hE]
  have hl : lv_has ls 6 [(0, .long v0)] := hl
  show W p l e rm_X1_varintBytes s m args below meth c s.heap [] 0 0 (MQ below (va_Qi Kn (BG D cy A Y) A) args s 0 0 A) (F0 m 0 ls [])
  unfold f_X1_varintBytes at hf
  refine lv_lload_n hx hb dX1_varintBytes_0 rfl (lv_at hl 0 rfl) ?_
  refine gm_cl (va_runS (As := [.long v0]) (rest := []) ⟨hx, hb, hml, hown, hts⟩ (m_X1_turned l D cy tq _ Y _ _ _) (va_cwS 1 hts (good_S kw_509 kw_510 kw_17 kw_511) rfl rfl rfl (by decide +kernel) ⟨Nat.le_of_ble_eq_true rfl, Nat.le_of_ble_eq_true rfl⟩) (gm_preS hK hW hC hS hA hf) rfl rfl hl.1 rfl (lv_room (Nat.le_of_ble_eq_true rfl)) dX1_varintBytes_1 ⟨Nat.le_of_ble_eq_true rfl, Nat.le_of_ble_eq_true rfl⟩) hW hS hA (fun r2 M1 H locs hW hS hf => ?_)
  refine lv_bipush (v := 7) hx hb dX1_varintBytes_4 (by decide +kernel) ?_
  refine lv_lushr hx hb dX1_varintBytes_6 rfl ?_
  refine lv_topl (fun x3 ex3 => ?_)
  replace hf := hf x3 ex3
  refine lv_lstore_n (lv' := [(2, .long x3), (0, .long v0)]) hx hb dX1_varintBytes_7 rfl hl (by decide) rfl (fun ls hl => ?_)
  refine lv_iconst (v := 1) hx hb dX1_varintBytes_8 (by decide +kernel) ?_
  refine lv_istore (lv' := [(4, .int 1), (2, .long x3), (0, .long v0)]) hx hb dX1_varintBytes_9 hl (by decide) rfl (fun ls hl => ?_)
  refine lv_iconst (v := 0) hx hb dX1_varintBytes_11 (by decide +kernel) ?_
  refine lv_istore (lv' := [(5, .int 0), (4, .int 1), (2, .long x3), (0, .long v0)]) hx hb dX1_varintBytes_12 hl (by decide) rfl (fun ls hl => ?_)
  obtain ⟨n14, hf⟩ := hf
  have lp14 : ∀ (n14 : Nat) (x4 : Int64) (x5 : Int32) (x6 : Int32) (H : Heap) (locs : List Loc) (ls : Array Slot), lv_has ls 6 [(2, .long x4), (4, .int x5), (5, .int x6)] → Wd D cy A Y M1 H → va_S A s.heap H locs → LOOP3 (L_X1_varintBytes_14 Y Kn M1) n14 x4 x5 x6 → W p l e rm_X1_varintBytes s m args below meth c H locs 0 0 (MQ below (va_Qi Kn (BG D cy A Y) A) args s 0 0 A) (F0 m 14 ls []) := by
    intro n14
    induction n14 with
    | zero => intro x4 x5 x6 H locs ls hl hW hS hf; exact hf.elim
    | succ n14 ih14 =>
      intro x4 x5 x6 H locs ls hl hW hS hf
      replace hf : L_X1_varintBytes_14 Y Kn M1 x4 x5 x6 (LOOP3 (L_X1_varintBytes_14 Y Kn M1) n14) := hf
      unfold L_X1_varintBytes_14 at hf
      refine lv_iload hx hb dX1_varintBytes_14 (lv_at hl 2 rfl) ?_
      refine lv_bipush (v := 9) hx hb dX1_varintBytes_16 (by decide +kernel) ?_
      have j41 : ∀ (H : Heap) (locs : List Loc) (ls : Array Slot), lv_has ls 6 [(4, .int x5)] → Wd D cy A Y M1 H → va_S A s.heap H locs → f_X1_varintBytes_41 Y Kn M1 x5  → W p l e rm_X1_varintBytes s m args below meth c H locs 0 0 (MQ below (va_Qi Kn (BG D cy A Y) A) args s 0 0 A) (F0 m 41 ls []) := by
        intro  H locs ls hl hW hS hf
        unfold f_X1_varintBytes_41 at hf
        refine lv_iload hx hb dX1_varintBytes_41 (lv_at hl 0 rfl) ?_
        exact gm_iret hx hb hr hlocks hW hS hf dX1_varintBytes_43
      refine lv_icmp_ge (tgt := 41) hx hb dX1_varintBytes_18 (by decide) (fun c7 => ?_) (fun c7 => ?_)
      · replace hf := hf.1 c7
        exact j41  _ _ _ (lv_sub hl [1] rfl) hW hS hf
      · replace hf := hf.2 c7
        refine lv_lload_n hx hb dX1_varintBytes_21 rfl (lv_at hl 0 rfl) ?_
        refine lv_lconst (v := 0) hx hb dX1_varintBytes_22 (by decide) ?_
        refine W.lcmp hx hb dX1_varintBytes_23 ?_
        refine lv_if_eq (tgt := 41) hx hb dX1_varintBytes_24 (by decide) (fun c8 => ?_) (fun c8 => ?_)
        · replace hf := hf.1 (lg_eq.mp c8)
          exact j41  _ _ _ (lv_sub hl [1] rfl) hW hS hf
        · replace hf := hf.2 (fun z => c8 (lg_eq.mpr z))
          refine lv_lload_n hx hb dX1_varintBytes_27 rfl (lv_at hl 0 rfl) ?_
          refine lv_bipush (v := 7) hx hb dX1_varintBytes_28 (by decide +kernel) ?_
          refine lv_lushr hx hb dX1_varintBytes_30 rfl ?_
          refine lv_topl (fun x9 ex9 => ?_)
          replace hf := hf x9 ex9
          refine lv_lstore_n (lv' := [(2, .long x9), (4, .int x5), (5, .int x6)]) hx hb dX1_varintBytes_31 rfl hl (by decide) rfl (fun ls hl => ?_)
          obtain ⟨x10, ex10⟩ : ∃ y : Int32, y = x5 + 1 := ⟨_, rfl⟩
          replace hf := hf x10 ex10
          refine lv_iinc (v := x10) (lv' := [(4, .int x10), (2, .long x9), (5, .int x6)]) hx hb dX1_varintBytes_32 hl (k := 1) rfl (by rw [ex10]; rfl) (by decide) rfl (fun ls hl => ?_)
          obtain ⟨x11, ex11⟩ : ∃ y : Int32, y = x6 + 1 := ⟨_, rfl⟩
          replace hf := hf x11 ex11
          refine lv_iinc (v := x11) (lv' := [(5, .int x11), (4, .int x10), (2, .long x9)]) hx hb dX1_varintBytes_35 hl (k := 2) rfl (by rw [ex11]; rfl) (by decide) rfl (fun ls hl => ?_)
          refine lv_goto (tgt := 14) hx hb dX1_varintBytes_38 (by decide) ?_
          exact ih14 _ _ _ _ _ _ (lv_sub hl [2, 1, 0] rfl) hW hS hf
  exact lp14 n14 _ _ _ _ _ _ (lv_sub hl [2, 1, 0] rfl) hW hS hf

abbrev rm_X1_putVarint : Room := { frames := 4, cells := 0, slots := 0, locals := 126 }
def f_X1_putVarint_51 (Y : Ly) (v0 : Nat) (v1 : Int32) (x5 : Int64) (x6 : Int32) (M7 : Mm) (again15 : Int64 → Int32 → Mm → Prop) (y9 : Int64) : Prop :=
  yK Y v0 = 100 ∧ (vp_in (v1 + x6) (yN Y v0) ∧ (∀ M12 : Mm, M12 = sI M7 v0 (m1 (mI M7 v0) (v1 + x6).toNatClampNeg y9.toInt32.toInt8.toInt32.toInt8.toInt32) → (∀ x13 : Int64, x13 = (x5.toUInt64 >>> ((7 : Int32).toInt64.toUInt64 &&& Int64.toUInt64 63)).toInt64 → (∀ x14 : Int32, x14 = x6 + 1 → (again15 x13 x14 M12)))))
def L_X1_putVarint_15 (Y : Ly) (v0 : Nat) (v1 : Int32) (Kn : Int32 → Mm → Prop) (r4 : Int32) (x5 : Int64) (x6 : Int32) (M7 : Mm) (again15 : Int64 → Int32 → Mm → Prop) : Prop :=
  (r4 ≤ x6 → (Kn (v1 + r4) M7)) ∧ (¬ (r4 ≤ x6) → (((r4 - 1) ≤ x6 → (f_X1_putVarint_51 Y v0 v1 x5 x6 M7 again15 x5)) ∧ (¬ ((r4 - 1) ≤ x6) → (f_X1_putVarint_51 Y v0 v1 x5 x6 M7 again15 ((x5 &&& 127) ||| 128)))))
def f_X1_putVarint (Y : Ly) (v0 : Nat) (v1 : Int32) (v2 : Int64) (M : Mm) (Kn : Int32 → Mm → Prop) : Prop :=
  f_X1_turned Y v2 M (fun r2 M1 => (f_X1_varintBytes Y v2 M1 (fun r4 M3 => (∃ n, LOOP3 (L_X1_putVarint_15 Y v0 v1 Kn r4) n r2 0 M3))))
set_option maxHeartbeats 4000000 in
set_option maxRecDepth 100000 in
theorem m_X1_putVarint (l : Launch) (D : va_G) (cy : Cy) (tq sz : Nat) (Y : Ly) (v0 : Nat) (v1 : Int32) (v2 : Int64) (M : Mm) (Kn : Int32 → Mm → Prop) : Met l yX1_putVarint (Cond.code yX1_putVarint cX1_putVarint 8 (some .int) :: TT) rm_X1_putVarint (PcG D cy tq [.ref v0, .int v1, .long v2] sz Y M (f_X1_putVarint Y v0 v1 v2 M Kn)) (va_Qi Kn (BG D cy (Am Y sz) Y) (Am Y sz)) 0 0 (Am Y sz) := by
  refine Met.ofW (cc := cX1_putVarint) (maxL := 8) (ret := (some .int)) (by decide) rfl ?_
  intro p e s m args below meth c s₁ B hml hv
  obtain ⟨hargs, hsz, hW, hK, hC, hf⟩ := hv
  subst hsz
  have hx := B.exec
  have hb := B.bytes
  have hr := B.returns
  have hts : ∀ w ∈ TT, w.before args s = true := fun w h => atoms_spec (ws := Cond.code yX1_putVarint cX1_putVarint 8 (some .int) :: TT) B.pre w (List.mem_cons_of_mem _ h)
  have hown : s.vm.findClass RX1 = some m.cls := findClass_of_methodNamed B.named
  have hlocks := B.notSynchronized
  replace hW := Wd_self (sz := s.heap.size) hW
  generalize hAe : Am Y s.heap.size = A at hW hC ⊢
  have hA : ∀ q : Nat, s.heap.size ≤ q → A q := fun q h => by rw [← hAe]; exact Or.inr h
  clear hAe
  have hS : va_S A s.heap s.heap [] := va_S.rf
  obtain ⟨ls, hE, hl⟩ := gm_entry m [.ref v0, .int v1, .long v2] (n := 8) hargs (Nat.le_of_ble_eq_true rfl)
  rw [hE]
  have hl : lv_has ls 8 [(0, .ref v0), (1, .int v1), (2, .long v2)] := hl
  show W p l e rm_X1_putVarint s m args below meth c s.heap [] 0 0 (MQ below (va_Qi Kn (BG D cy A Y) A) args s 0 0 A) (F0 m 0 ls [])
  unfold f_X1_putVarint at hf
  refine lv_lload_n hx hb dX1_putVarint_0 rfl (lv_at hl 2 rfl) ?_
  refine gm_cl (va_runS (As := [.long v2]) (rest := []) ⟨hx, hb, hml, hown, hts⟩ (m_X1_turned l D cy tq _ Y _ _ _) (va_cwS 1 hts (good_S kw_509 kw_510 kw_17 kw_511) rfl rfl rfl (by decide +kernel) ⟨Nat.le_of_ble_eq_true rfl, Nat.le_of_ble_eq_true rfl⟩) (gm_preS hK hW hC hS hA hf) rfl rfl hl.1 rfl (lv_room (Nat.le_of_ble_eq_true rfl)) dX1_putVarint_1 ⟨Nat.le_of_ble_eq_true rfl, Nat.le_of_ble_eq_true rfl⟩) hW hS hA (fun r2 M1 H locs hW hS hf => ?_)
  refine lv_lstore (lv' := [(4, .long r2), (0, .ref v0), (1, .int v1), (2, .long v2)]) hx hb dX1_putVarint_4 hl (by decide) rfl (fun ls hl => ?_)
  refine lv_lload_n hx hb dX1_putVarint_6 rfl (lv_at hl 3 rfl) ?_
  refine gm_ci (va_runS (As := [.long v2]) (rest := []) ⟨hx, hb, hml, hown, hts⟩ (m_X1_varintBytes l D cy tq _ Y _ _ _) (va_cwS 1 hts (good_S kw_520 kw_507 kw_17 kw_508) rfl rfl rfl (by decide +kernel) ⟨Nat.le_of_ble_eq_true rfl, Nat.le_of_ble_eq_true rfl⟩) (gm_preS hK hW hC hS hA hf) rfl rfl hl.1 rfl (lv_room (Nat.le_of_ble_eq_true rfl)) dX1_putVarint_7 ⟨Nat.le_of_ble_eq_true rfl, Nat.le_of_ble_eq_true rfl⟩) hW hS hA (fun r4 M3 H locs hW hS hf => ?_)
  refine lv_istore (lv' := [(6, .int r4), (4, .long r2), (0, .ref v0), (1, .int v1), (2, .long v2)]) hx hb dX1_putVarint_10 hl (by decide) rfl (fun ls hl => ?_)
  refine lv_iconst (v := 0) hx hb dX1_putVarint_12 (by decide +kernel) ?_
  refine lv_istore (lv' := [(7, .int 0), (6, .int r4), (4, .long r2), (0, .ref v0), (1, .int v1), (2, .long v2)]) hx hb dX1_putVarint_13 hl (by decide) rfl (fun ls hl => ?_)
  obtain ⟨n15, hf⟩ := hf
  have lp15 : ∀ (n15 : Nat) (x5 : Int64) (x6 : Int32) (M7 : Mm) (H : Heap) (locs : List Loc) (ls : Array Slot), lv_has ls 8 [(0, .ref v0), (1, .int v1), (4, .long x5), (6, .int r4), (7, .int x6)] → Wd D cy A Y M7 H → va_S A s.heap H locs → LOOP3 (L_X1_putVarint_15 Y v0 v1 Kn r4) n15 x5 x6 M7 → W p l e rm_X1_putVarint s m args below meth c H locs 0 0 (MQ below (va_Qi Kn (BG D cy A Y) A) args s 0 0 A) (F0 m 15 ls []) := by
    intro n15
    induction n15 with
    | zero => intro x5 x6 M7 H locs ls hl hW hS hf; exact hf.elim
    | succ n15 ih15 =>
      intro x5 x6 M7 H locs ls hl hW hS hf
      replace hf : L_X1_putVarint_15 Y v0 v1 Kn r4 x5 x6 M7 (LOOP3 (L_X1_putVarint_15 Y v0 v1 Kn r4) n15) := hf
      unfold L_X1_putVarint_15 at hf
      refine lv_iload hx hb dX1_putVarint_15 (lv_at hl 4 rfl) ?_
      refine lv_iload hx hb dX1_putVarint_17 (lv_at hl 3 rfl) ?_
      refine lv_icmp_ge (tgt := 67) hx hb dX1_putVarint_19 (by decide) (fun c8 => ?_) (fun c8 => ?_)
      · replace hf := hf.1 c8
        refine lv_iload_n hx hb dX1_putVarint_67 rfl (lv_at hl 1 rfl) ?_
        refine lv_iload hx hb dX1_putVarint_68 (lv_at hl 3 rfl) ?_
        refine lv_iadd hx hb dX1_putVarint_70 ?_
        exact gm_iret hx hb hr hlocks hW hS hf dX1_putVarint_71
      · replace hf := hf.2 c8
        refine lv_aload_n hx hb dX1_putVarint_22 rfl (lv_at hl 0 rfl) ?_
        refine lv_iload_n hx hb dX1_putVarint_23 rfl (lv_at hl 1 rfl) ?_
        refine lv_iload hx hb dX1_putVarint_24 (lv_at hl 4 rfl) ?_
        refine lv_iadd hx hb dX1_putVarint_26 ?_
        refine lv_iload hx hb dX1_putVarint_27 (lv_at hl 4 rfl) ?_
        refine lv_iload hx hb dX1_putVarint_29 (lv_at hl 3 rfl) ?_
        refine lv_iconst (v := 1) hx hb dX1_putVarint_31 (by decide +kernel) ?_
        refine lv_isub hx hb dX1_putVarint_32 ?_
        have j51 : ∀ (y9 : Int64) (H : Heap) (locs : List Loc) (ls : Array Slot), lv_has ls 8 [(0, .ref v0), (1, .int v1), (4, .long x5), (6, .int r4), (7, .int x6)] → Wd D cy A Y M7 H → va_S A s.heap H locs → f_X1_putVarint_51 Y v0 v1 x5 x6 M7 (LOOP3 (L_X1_putVarint_15 Y v0 v1 Kn r4) n15) y9 → W p l e rm_X1_putVarint s m args below meth c H locs 0 0 (MQ below (va_Qi Kn (BG D cy A Y) A) args s 0 0 A) (F0 m 51 ls [.long y9, .int (v1 + x6), .ref v0]) := by
          intro y9 H locs ls hl hW hS hf
          unfold f_X1_putVarint_51 at hf
          refine lv_l2i hx hb dX1_putVarint_51 rfl ?_
          refine lv_i2b hx hb dX1_putVarint_52 rfl ?_
          obtain ⟨k10, hf⟩ := hf
          obtain ⟨h11, hf⟩ := hf
          refine gm_bast hx hb hK hW hS k10 h11 dX1_putVarint_53 (fun H locs M12 eM12 hW hS => ?_)
          replace hf := hf M12 eM12
          refine lv_lload hx hb dX1_putVarint_54 (lv_at hl 2 rfl) ?_
          refine lv_bipush (v := 7) hx hb dX1_putVarint_56 (by decide +kernel) ?_
          refine lv_lushr hx hb dX1_putVarint_58 rfl ?_
          refine lv_topl (fun x13 ex13 => ?_)
          replace hf := hf x13 ex13
          refine lv_lstore (lv' := [(4, .long x13), (0, .ref v0), (1, .int v1), (6, .int r4), (7, .int x6)]) hx hb dX1_putVarint_59 hl (by decide) rfl (fun ls hl => ?_)
          obtain ⟨x14, ex14⟩ : ∃ y : Int32, y = x6 + 1 := ⟨_, rfl⟩
          replace hf := hf x14 ex14
          refine lv_iinc (v := x14) (lv' := [(7, .int x14), (4, .long x13), (0, .ref v0), (1, .int v1), (6, .int r4)]) hx hb dX1_putVarint_61 hl (k := 4) rfl (by rw [ex14]; rfl) (by decide) rfl (fun ls hl => ?_)
          refine lv_goto (tgt := 15) hx hb dX1_putVarint_64 (by decide) ?_
          exact ih15 _ _ _ _ _ _ (lv_sub hl [2, 3, 1, 4, 0] rfl) hW hS hf
        refine lv_icmp_ge (tgt := 49) hx hb dX1_putVarint_33 (by decide) (fun c15 => ?_) (fun c15 => ?_)
        · replace hf := hf.1 c15
          refine lv_lload hx hb dX1_putVarint_49 (lv_at hl 2 rfl) ?_
          exact j51 _ _ _ _ (lv_sub hl [0, 1, 2, 3, 4] rfl) hW hS hf
        · replace hf := hf.2 c15
          refine lv_lload hx hb dX1_putVarint_36 (lv_at hl 2 rfl) ?_
          refine lv_ldc2 (v := 127) hx hb hown (hts _ kw_521) dX1_putVarint_38 ?_
          refine lv_land hx hb dX1_putVarint_41 ?_
          refine lv_ldc2 (v := 128) hx hb hown (hts _ kw_522) dX1_putVarint_42 ?_
          refine lv_lor hx hb dX1_putVarint_45 ?_
          refine lv_goto (tgt := 51) hx hb dX1_putVarint_46 (by decide) ?_
          exact j51 _ _ _ _ (lv_sub hl [0, 1, 2, 3, 4] rfl) hW hS hf
  exact lp15 n15 _ _ _ _ _ _ (lv_sub hl [3, 4, 2, 1, 0] rfl) hW hS hf

abbrev rm_J9_floorMod_7cf53 : Room := { frames := 2, cells := 0, slots := 0, locals := 80 }
def f_J9_floorMod_7cf53_18 (Y : Ly) (M : Mm) (Kn : Int32 → Mm → Prop) (x2 : Int32) : Prop :=
  Kn x2 M
def f_J9_floorMod_7cf53 (Y : Ly) (v0 : Int32) (v1 : Int32) (M : Mm) (Kn : Int32 → Mm → Prop) : Prop :=
  ¬ v1 = 0 ∧ (∀ x2 : Int32, x2 = v0 - v0 / v1 * v1 → ((0 ≤ (v0 ^^^ v1) → (f_J9_floorMod_7cf53_18 Y M Kn x2)) ∧ (¬ (0 ≤ (v0 ^^^ v1)) → ((x2 = 0 → (f_J9_floorMod_7cf53_18 Y M Kn x2)) ∧ (¬ (x2 = 0) → (Kn (x2 + v1) M))))))
set_option maxHeartbeats 4000000 in
set_option maxRecDepth 100000 in
theorem m_J9_floorMod_7cf53 (l : Launch) (D : va_G) (cy : Cy) (tq sz : Nat) (Y : Ly) (v0 : Int32) (v1 : Int32) (M : Mm) (Kn : Int32 → Mm → Prop) : Met l yJ9_floorMod_7cf53 (Cond.code yJ9_floorMod_7cf53 cJ9_floorMod_7cf53 3 (some .int) :: TT) rm_J9_floorMod_7cf53 (PcG D cy tq [.int v0, .int v1] sz Y M (f_J9_floorMod_7cf53 Y v0 v1 M Kn)) (va_Qi Kn (BG D cy (Am Y sz) Y) (Am Y sz)) 0 0 (Am Y sz) := by
  refine Met_ofWF (cc := cJ9_floorMod_7cf53) (maxL := 3) (ret := (some .int)) (by decide +kernel) rfl ?_
  intro p e s m args below meth c s₁ B hml hv
  obtain ⟨hargs, hsz, hW, hK, hC, hf⟩ := hv
  subst hsz
  have hx := B.exec
  have hb := B.bytes
  have hr := B.returns
  have hts : ∀ w ∈ TT, w.before args s = true := fun w h => atoms_spec (ws := Cond.code yJ9_floorMod_7cf53 cJ9_floorMod_7cf53 3 (some .int) :: TT) B.pre w (List.mem_cons_of_mem _ h)
  have hown : s.vm.findClass RJ9 = some m.cls := findClass_of_methodNamed B.named
  have hlocks := B.notSynchronized
  replace hW := Wd_self (sz := s.heap.size) hW
  generalize hAe : Am Y s.heap.size = A at hW hC ⊢
  have hA : ∀ q : Nat, s.heap.size ≤ q → A q := fun q h => by rw [← hAe]; exact Or.inr h
  clear hAe
  have hS : va_S A s.heap s.heap [] := va_S.rf
  obtain ⟨ls, hE, hl⟩ := gm_entry m [.int v0, .int v1] (n := 3) hargs (Nat.le_of_ble_eq_true rfl)
  rw [hE]
  have hl : lv_has ls 3 [(0, .int v0), (1, .int v1)] := hl
  show W p l e rm_J9_floorMod_7cf53 s m args below meth c s.heap [] 0 0 (MQ below (va_Qi Kn (BG D cy A Y) A) args s 0 0 A) (F0 m 0 ls [])
  unfold f_J9_floorMod_7cf53 at hf
  refine lv_iload_n hx hb dJ9_floorMod_7cf53_0 rfl (lv_at hl 0 rfl) ?_
  refine lv_iload_n hx hb dJ9_floorMod_7cf53_1 rfl (lv_at hl 1 rfl) ?_
  obtain ⟨h1, hf⟩ := hf
  refine lv_irem hx hb dJ9_floorMod_7cf53_2 h1 ?_
  refine lv_topi (fun x2 ex2 => ?_)
  replace hf := hf x2 ex2
  refine lv_istore_n (lv' := [(2, .int x2), (0, .int v0), (1, .int v1)]) hx hb dJ9_floorMod_7cf53_3 rfl hl (by decide) rfl (fun ls hl => ?_)
  refine lv_iload_n hx hb dJ9_floorMod_7cf53_4 rfl (lv_at hl 1 rfl) ?_
  refine lv_iload_n hx hb dJ9_floorMod_7cf53_5 rfl (lv_at hl 2 rfl) ?_
  refine lv_ixor hx hb dJ9_floorMod_7cf53_6 ?_
  have j18 : ∀ (H : Heap) (locs : List Loc) (ls : Array Slot), lv_has ls 3 [(2, .int x2)] → Wd D cy A Y M H → va_S A s.heap H locs → f_J9_floorMod_7cf53_18 Y M Kn x2  → W p l e rm_J9_floorMod_7cf53 s m args below meth c H locs 0 0 (MQ below (va_Qi Kn (BG D cy A Y) A) args s 0 0 A) (F0 m 18 ls []) := by
    intro  H locs ls hl hW hS hf
    unfold f_J9_floorMod_7cf53_18 at hf
    refine lv_iload_n hx hb dJ9_floorMod_7cf53_18 rfl (lv_at hl 0 rfl) ?_
    exact gm_iret hx hb hr hlocks hW hS hf dJ9_floorMod_7cf53_19
  refine lv_if_ge (tgt := 18) hx hb dJ9_floorMod_7cf53_7 (by decide) (fun c3 => ?_) (fun c3 => ?_)
  · replace hf := hf.1 c3
    exact j18  _ _ _ (lv_sub hl [0] rfl) hW hS hf
  · replace hf := hf.2 c3
    refine lv_iload_n hx hb dJ9_floorMod_7cf53_10 rfl (lv_at hl 0 rfl) ?_
    refine lv_if_eq (tgt := 18) hx hb dJ9_floorMod_7cf53_11 (by decide) (fun c4 => ?_) (fun c4 => ?_)
    · replace hf := hf.1 c4
      exact j18  _ _ _ (lv_sub hl [0] rfl) hW hS hf
    · replace hf := hf.2 c4
      refine lv_iload_n hx hb dJ9_floorMod_7cf53_14 rfl (lv_at hl 0 rfl) ?_
      refine lv_iload_n hx hb dJ9_floorMod_7cf53_15 rfl (lv_at hl 2 rfl) ?_
      refine lv_iadd hx hb dJ9_floorMod_7cf53_16 ?_
      exact gm_iret hx hb hr hlocks hW hS hf dJ9_floorMod_7cf53_17

abbrev rm_J7_fill_031fb : Room := { frames := 2, cells := 0, slots := 0, locals := 80 }
def L_J7_fill_031fb_5 (Y : Ly) (v0 : Nat) (v1 : Int32) (Kn : Mm → Prop) (x2 : Int32) (x3 : Int32) (M4 : Mm) (again5 : Int32 → Mm → Prop) : Prop :=
  (x2 ≤ x3 → (Kn M4)) ∧ (¬ (x2 ≤ x3) → (vp_in x3 (yN Y v0) ∧ (∀ M7 : Mm, M7 = sI M4 v0 (m1 (mI M4 v0) x3.toNatClampNeg v1.toInt8.toInt32) → (∀ x8 : Int32, x8 = x3 + 1 → (again5 x8 M7)))))
def f_J7_fill_031fb (Y : Ly) (v0 : Nat) (v1 : Int32) (M : Mm) (Kn : Mm → Prop) : Prop :=
  yK Y v0 = 100 ∧ (∀ x2 : Int32, x2 = nI (yN Y v0) → (∃ n, LOOP2 (L_J7_fill_031fb_5 Y v0 v1 Kn x2) n 0 M))
set_option maxHeartbeats 4000000 in
set_option maxRecDepth 100000 in
theorem m_J7_fill_031fb (l : Launch) (D : va_G) (cy : Cy) (tq sz : Nat) (Y : Ly) (v0 : Nat) (v1 : Int32) (M : Mm) (Kn : Mm → Prop) : Met l yJ7_fill_031fb (Cond.code yJ7_fill_031fb cJ7_fill_031fb 4 none :: TT) rm_J7_fill_031fb (PcG D cy tq [.ref v0, .int v1] sz Y M (f_J7_fill_031fb Y v0 v1 M Kn)) (va_Qv Kn (BG D cy (Am Y sz) Y) (Am Y sz)) 0 0 (Am Y sz) := by
  refine Met.ofW (cc := cJ7_fill_031fb) (maxL := 4) (ret := none) (by decide) rfl ?_
  intro p e s m args below meth c s₁ B hml hv
  obtain ⟨hargs, hsz, hW, hK, hC, hf⟩ := hv
  subst hsz
  have hx := B.exec
  have hb := B.bytes
  have hr := B.returns
  have hts : ∀ w ∈ TT, w.before args s = true := fun w h => atoms_spec (ws := Cond.code yJ7_fill_031fb cJ7_fill_031fb 4 none :: TT) B.pre w (List.mem_cons_of_mem _ h)
  have hown : s.vm.findClass RJ7 = some m.cls := findClass_of_methodNamed B.named
  have hlocks := B.notSynchronized
  replace hW := Wd_self (sz := s.heap.size) hW
  generalize hAe : Am Y s.heap.size = A at hW hC ⊢
  have hA : ∀ q : Nat, s.heap.size ≤ q → A q := fun q h => by rw [← hAe]; exact Or.inr h
  clear hAe
  have hS : va_S A s.heap s.heap [] := va_S.rf
  obtain ⟨ls, hE, hl⟩ := gm_entry m [.ref v0, .int v1] (n := 4) hargs (Nat.le_of_ble_eq_true rfl)
  rw [hE]
  have hl : lv_has ls 4 [(0, .ref v0), (1, .int v1)] := hl
  show W p l e rm_J7_fill_031fb s m args below meth c s.heap [] 0 0 (MQ below (va_Qv Kn (BG D cy A Y) A) args s 0 0 A) (F0 m 0 ls [])
  unfold f_J7_fill_031fb at hf
  refine lv_iconst (v := 0) hx hb dJ7_fill_031fb_0 (by decide +kernel) ?_
  refine lv_istore_n (lv' := [(2, .int 0), (0, .ref v0), (1, .int v1)]) hx hb dJ7_fill_031fb_1 rfl hl (by decide) rfl (fun ls hl => ?_)
  refine lv_aload_n hx hb dJ7_fill_031fb_2 rfl (lv_at hl 1 rfl) ?_
  obtain ⟨k1, hf⟩ := hf
  refine gm_alen hx hb hK hW (by rw [k1]; decide) dJ7_fill_031fb_3 ?_
  refine lv_topi (fun x2 ex2 => ?_)
  replace hf := hf x2 ex2
  refine lv_istore_n (lv' := [(3, .int x2), (2, .int 0), (0, .ref v0), (1, .int v1)]) hx hb dJ7_fill_031fb_4 rfl hl (by decide) rfl (fun ls hl => ?_)
  obtain ⟨n5, hf⟩ := hf
  have lp5 : ∀ (n5 : Nat) (x3 : Int32) (M4 : Mm) (H : Heap) (locs : List Loc) (ls : Array Slot), lv_has ls 4 [(0, .ref v0), (1, .int v1), (2, .int x3), (3, .int x2)] → Wd D cy A Y M4 H → va_S A s.heap H locs → LOOP2 (L_J7_fill_031fb_5 Y v0 v1 Kn x2) n5 x3 M4 → W p l e rm_J7_fill_031fb s m args below meth c H locs 0 0 (MQ below (va_Qv Kn (BG D cy A Y) A) args s 0 0 A) (F0 m 5 ls []) := by
    intro n5
    induction n5 with
    | zero => intro x3 M4 H locs ls hl hW hS hf; exact hf.elim
    | succ n5 ih5 =>
      intro x3 M4 H locs ls hl hW hS hf
      replace hf : L_J7_fill_031fb_5 Y v0 v1 Kn x2 x3 M4 (LOOP2 (L_J7_fill_031fb_5 Y v0 v1 Kn x2) n5) := hf
      unfold L_J7_fill_031fb_5 at hf
      refine lv_iload_n hx hb dJ7_fill_031fb_5 rfl (lv_at hl 2 rfl) ?_
      refine lv_iload_n hx hb dJ7_fill_031fb_6 rfl (lv_at hl 3 rfl) ?_
      refine lv_icmp_ge (tgt := 20) hx hb dJ7_fill_031fb_7 (by decide) (fun c5 => ?_) (fun c5 => ?_)
      · replace hf := hf.1 c5
        exact gm_vret hx hb hr hlocks hW hS hf dJ7_fill_031fb_20
      · replace hf := hf.2 c5
        refine lv_aload_n hx hb dJ7_fill_031fb_10 rfl (lv_at hl 0 rfl) ?_
        refine lv_iload_n hx hb dJ7_fill_031fb_11 rfl (lv_at hl 2 rfl) ?_
        refine lv_iload_n hx hb dJ7_fill_031fb_12 rfl (lv_at hl 1 rfl) ?_
        obtain ⟨h6, hf⟩ := hf
        refine gm_bast hx hb hK hW hS k1 h6 dJ7_fill_031fb_13 (fun H locs M7 eM7 hW hS => ?_)
        replace hf := hf M7 eM7
        obtain ⟨x8, ex8⟩ : ∃ y : Int32, y = x3 + 1 := ⟨_, rfl⟩
        replace hf := hf x8 ex8
        refine lv_iinc (v := x8) (lv' := [(2, .int x8), (0, .ref v0), (1, .int v1), (3, .int x2)]) hx hb dJ7_fill_031fb_14 hl (k := 2) rfl (by rw [ex8]; rfl) (by decide) rfl (fun ls hl => ?_)
        refine lv_goto (tgt := 5) hx hb dJ7_fill_031fb_17 (by decide) ?_
        exact ih5 _ _ _ _ _ (lv_sub hl [1, 2, 0, 3] rfl) hW hS hf
  exact lp5 n5 _ _ _ _ _ (lv_sub hl [2, 3, 1, 0] rfl) hW hS hf

abbrev rm_J7_fill_fda19 : Room := { frames := 3, cells := 0, slots := 0, locals := 102 }
def L_J7_fill_fda19_10 (Y : Ly) (v0 : Nat) (v2 : Int32) (v3 : Int32) (Kn : Mm → Prop) (x3 : Int32) (M4 : Mm) (again10 : Int32 → Mm → Prop) : Prop :=
  (v2 ≤ x3 → (Kn M4)) ∧ (¬ (v2 ≤ x3) → (vp_in x3 (yN Y v0) ∧ (∀ M7 : Mm, M7 = sI M4 v0 (m1 (mI M4 v0) x3.toNatClampNeg v3) → (∀ x8 : Int32, x8 = x3 + 1 → (again10 x8 M7)))))
def f_J7_fill_fda19 (Y : Ly) (v0 : Nat) (v1 : Int32) (v2 : Int32) (v3 : Int32) (M : Mm) (Kn : Mm → Prop) : Prop :=
  yK Y v0 = 101 ∧ (f_J7_rangeCheck_23922 Y (nI (yN Y v0)) v1 v2 M (fun M2 => (∃ n, LOOP2 (L_J7_fill_fda19_10 Y v0 v2 v3 Kn) n v1 M2)))
set_option maxHeartbeats 4000000 in
set_option maxRecDepth 100000 in
theorem m_J7_fill_fda19 (l : Launch) (D : va_G) (cy : Cy) (tq sz : Nat) (Y : Ly) (v0 : Nat) (v1 : Int32) (v2 : Int32) (v3 : Int32) (M : Mm) (Kn : Mm → Prop) : Met l yJ7_fill_fda19 (Cond.code yJ7_fill_fda19 cJ7_fill_fda19 5 none :: TT) rm_J7_fill_fda19 (PcG D cy tq [.ref v0, .int v1, .int v2, .int v3] sz Y M (f_J7_fill_fda19 Y v0 v1 v2 v3 M Kn)) (va_Qv Kn (BG D cy (Am Y sz) Y) (Am Y sz)) 0 0 (Am Y sz) := by
  refine Met.ofW (cc := cJ7_fill_fda19) (maxL := 5) (ret := none) (by decide) rfl ?_
  intro p e s m args below meth c s₁ B hml hv
  obtain ⟨hargs, hsz, hW, hK, hC, hf⟩ := hv
  subst hsz
  have hx := B.exec
  have hb := B.bytes
  have hr := B.returns
  have hts : ∀ w ∈ TT, w.before args s = true := fun w h => atoms_spec (ws := Cond.code yJ7_fill_fda19 cJ7_fill_fda19 5 none :: TT) B.pre w (List.mem_cons_of_mem _ h)
  have hown : s.vm.findClass RJ7 = some m.cls := findClass_of_methodNamed B.named
  have hlocks := B.notSynchronized
  replace hW := Wd_self (sz := s.heap.size) hW
  generalize hAe : Am Y s.heap.size = A at hW hC ⊢
  have hA : ∀ q : Nat, s.heap.size ≤ q → A q := fun q h => by rw [← hAe]; exact Or.inr h
  clear hAe
  have hS : va_S A s.heap s.heap [] := va_S.rf
  obtain ⟨ls, hE, hl⟩ := gm_entry m [.ref v0, .int v1, .int v2, .int v3] (n := 5) hargs (Nat.le_of_ble_eq_true rfl)
  rw [hE]
  have hl : lv_has ls 5 [(0, .ref v0), (1, .int v1), (2, .int v2), (3, .int v3)] := hl
  show W p l e rm_J7_fill_fda19 s m args below meth c s.heap [] 0 0 (MQ below (va_Qv Kn (BG D cy A Y) A) args s 0 0 A) (F0 m 0 ls [])
  unfold f_J7_fill_fda19 at hf
  refine lv_aload_n hx hb dJ7_fill_fda19_0 rfl (lv_at hl 0 rfl) ?_
  obtain ⟨k1, hf⟩ := hf
  refine gm_alen hx hb hK hW (by rw [k1]; decide) dJ7_fill_fda19_1 ?_
  refine lv_iload_n hx hb dJ7_fill_fda19_2 rfl (lv_at hl 1 rfl) ?_
  refine lv_iload_n hx hb dJ7_fill_fda19_3 rfl (lv_at hl 2 rfl) ?_
  refine gm_cv (va_runS (As := [.int (nI (yN Y v0)), .int v1, .int v2]) (rest := []) ⟨hx, hb, hml, hown, hts⟩ (m_J7_rangeCheck_23922 l D cy tq _ Y _ _ _ _ _) (va_cwS 3 hts (good_S kw_541 kw_542 kw_21 kw_543) rfl rfl rfl (by decide +kernel) ⟨Nat.le_of_ble_eq_true rfl, Nat.le_of_ble_eq_true rfl⟩) (gm_preS hK hW hC hS hA hf) rfl rfl hl.1 rfl (lv_room (Nat.le_of_ble_eq_true rfl)) dJ7_fill_fda19_4 ⟨Nat.le_of_ble_eq_true rfl, Nat.le_of_ble_eq_true rfl⟩) hW hS hA (fun M2 H locs hW hS hf => ?_)
  refine lv_iload_n hx hb dJ7_fill_fda19_7 rfl (lv_at hl 1 rfl) ?_
  refine lv_istore (lv' := [(4, .int v1), (0, .ref v0), (1, .int v1), (2, .int v2), (3, .int v3)]) hx hb dJ7_fill_fda19_8 hl (by decide) rfl (fun ls hl => ?_)
  obtain ⟨n10, hf⟩ := hf
  have lp10 : ∀ (n10 : Nat) (x3 : Int32) (M4 : Mm) (H : Heap) (locs : List Loc) (ls : Array Slot), lv_has ls 5 [(0, .ref v0), (2, .int v2), (3, .int v3), (4, .int x3)] → Wd D cy A Y M4 H → va_S A s.heap H locs → LOOP2 (L_J7_fill_fda19_10 Y v0 v2 v3 Kn) n10 x3 M4 → W p l e rm_J7_fill_fda19 s m args below meth c H locs 0 0 (MQ below (va_Qv Kn (BG D cy A Y) A) args s 0 0 A) (F0 m 10 ls []) := by
    intro n10
    induction n10 with
    | zero => intro x3 M4 H locs ls hl hW hS hf; exact hf.elim
    | succ n10 ih10 =>
      intro x3 M4 H locs ls hl hW hS hf
      replace hf : L_J7_fill_fda19_10 Y v0 v2 v3 Kn x3 M4 (LOOP2 (L_J7_fill_fda19_10 Y v0 v2 v3 Kn) n10) := hf
      unfold L_J7_fill_fda19_10 at hf
      refine lv_iload hx hb dJ7_fill_fda19_10 (lv_at hl 3 rfl) ?_
      refine lv_iload_n hx hb dJ7_fill_fda19_12 rfl (lv_at hl 1 rfl) ?_
      refine lv_icmp_ge (tgt := 27) hx hb dJ7_fill_fda19_13 (by decide) (fun c5 => ?_) (fun c5 => ?_)
      · replace hf := hf.1 c5
        exact gm_vret hx hb hr hlocks hW hS hf dJ7_fill_fda19_27
      · replace hf := hf.2 c5
        refine lv_aload_n hx hb dJ7_fill_fda19_16 rfl (lv_at hl 0 rfl) ?_
        refine lv_iload hx hb dJ7_fill_fda19_17 (lv_at hl 3 rfl) ?_
        refine lv_iload_n hx hb dJ7_fill_fda19_19 rfl (lv_at hl 2 rfl) ?_
        obtain ⟨h6, hf⟩ := hf
        refine gm_iast hx hb hK hW hS k1 h6 dJ7_fill_fda19_20 (fun H locs M7 eM7 hW hS => ?_)
        replace hf := hf M7 eM7
        obtain ⟨x8, ex8⟩ : ∃ y : Int32, y = x3 + 1 := ⟨_, rfl⟩
        replace hf := hf x8 ex8
        refine lv_iinc (v := x8) (lv' := [(4, .int x8), (0, .ref v0), (2, .int v2), (3, .int v3)]) hx hb dJ7_fill_fda19_21 hl (k := 3) rfl (by rw [ex8]; rfl) (by decide) rfl (fun ls hl => ?_)
        refine lv_goto (tgt := 10) hx hb dJ7_fill_fda19_24 (by decide) ?_
        exact ih10 _ _ _ _ _ (lv_sub hl [1, 2, 3, 0] rfl) hW hS hf
  exact lp10 n10 _ _ _ _ _ (lv_sub hl [1, 3, 4, 0] rfl) hW hS hf

abbrev rm_X11_isWithin : Room := { frames := 2, cells := 0, slots := 0, locals := 80 }
def f_X11_isWithin_18 (Y : Ly) (M : Mm) (Kn : Int32 → Mm → Prop) (y1 : Int32) : Prop :=
  bz y1 ∧ Kn y1 M
def f_X11_isWithin_17 (Y : Ly) (M : Mm) (Kn : Int32 → Mm → Prop) : Prop :=
  f_X11_isWithin_18 Y M Kn 0
def f_X11_isWithin (Y : Ly) (v0 : Int64) (v2 : Int64) (v4 : Int64) (M : Mm) (Kn : Int32 → Mm → Prop) : Prop :=
  (v0 < v2 → (f_X11_isWithin_17 Y M Kn)) ∧ (¬ (v0 < v2) → ((v4 < v0 → (f_X11_isWithin_17 Y M Kn)) ∧ (¬ (v4 < v0) → (f_X11_isWithin_18 Y M Kn 1))))
set_option maxHeartbeats 4000000 in
set_option maxRecDepth 100000 in
theorem m_X11_isWithin (l : Launch) (D : va_G) (cy : Cy) (tq sz : Nat) (Y : Ly) (v0 : Int64) (v2 : Int64) (v4 : Int64) (M : Mm) (Kn : Int32 → Mm → Prop) : Met l yX11_isWithin (Cond.code yX11_isWithin cX11_isWithin 6 (some .boolean) :: TT) rm_X11_isWithin (PcG D cy tq [.long v0, .long v2, .long v4] sz Y M (f_X11_isWithin Y v0 v2 v4 M Kn)) (va_Qi Kn (BG D cy (Am Y sz) Y) (Am Y sz)) 0 0 (Am Y sz) := by
  refine Met.ofW (cc := cX11_isWithin) (maxL := 6) (ret := (some .boolean)) (by decide) rfl ?_
  intro p e s m args below meth c s₁ B hml hv
  obtain ⟨hargs, hsz, hW, hK, hC, hf⟩ := hv
  subst hsz
  have hx := B.exec
  have hb := B.bytes
  have hr := B.returns
  have hts : ∀ w ∈ TT, w.before args s = true := fun w h => atoms_spec (ws := Cond.code yX11_isWithin cX11_isWithin 6 (some .boolean) :: TT) B.pre w (List.mem_cons_of_mem _ h)
  have hown : s.vm.findClass RX11 = some m.cls := findClass_of_methodNamed B.named
  have hlocks := B.notSynchronized
  replace hW := Wd_self (sz := s.heap.size) hW
  generalize hAe : Am Y s.heap.size = A at hW hC ⊢
  have hA : ∀ q : Nat, s.heap.size ≤ q → A q := fun q h => by rw [← hAe]; exact Or.inr h
  clear hAe
  have hS : va_S A s.heap s.heap [] := va_S.rf
  obtain ⟨ls, hE, hl⟩ := gm_entry m [.long v0, .long v2, .long v4] (n := 6) hargs (Nat.le_of_ble_eq_true rfl)
  rw [hE]
  have hl : lv_has ls 6 [(0, .long v0), (2, .long v2), (4, .long v4)] := hl
  show W p l e rm_X11_isWithin s m args below meth c s.heap [] 0 0 (MQ below (va_Qi Kn (BG D cy A Y) A) args s 0 0 A) (F0 m 0 ls [])
  unfold f_X11_isWithin at hf
  refine lv_lload_n hx hb dX11_isWithin_0 rfl (lv_at hl 0 rfl) ?_
  refine lv_lload_n hx hb dX11_isWithin_1 rfl (lv_at hl 1 rfl) ?_
  refine W.lcmp hx hb dX11_isWithin_2 ?_
  have j18 : ∀ (y1 : Int32) (H : Heap) (locs : List Loc) (ls : Array Slot), lv_has ls 6 [] → Wd D cy A Y M H → va_S A s.heap H locs → f_X11_isWithin_18 Y M Kn y1 → W p l e rm_X11_isWithin s m args below meth c H locs 0 0 (MQ below (va_Qi Kn (BG D cy A Y) A) args s 0 0 A) (F0 m 18 ls [.int y1]) := by
    intro y1 H locs ls hl hW hS hf
    unfold f_X11_isWithin_18 at hf
    exact gm_zret hx hb hr hlocks hW hS hf.1 hf.2 dX11_isWithin_18
  have j17 : ∀ (H : Heap) (locs : List Loc) (ls : Array Slot), lv_has ls 6 [] → Wd D cy A Y M H → va_S A s.heap H locs → f_X11_isWithin_17 Y M Kn  → W p l e rm_X11_isWithin s m args below meth c H locs 0 0 (MQ below (va_Qi Kn (BG D cy A Y) A) args s 0 0 A) (F0 m 17 ls []) := by
    intro  H locs ls hl hW hS hf
    unfold f_X11_isWithin_17 at hf
    refine lv_iconst (v := 0) hx hb dX11_isWithin_17 (by decide +kernel) ?_
    exact j18 _ _ _ _ (lv_sub hl [] rfl) hW hS hf
  refine lv_if_lt (tgt := 17) hx hb dX11_isWithin_3 (by decide) (fun c2 => ?_) (fun c2 => ?_)
  · replace hf := hf.1 (lg_lt.mp c2)
    exact j17  _ _ _ (lv_sub hl [] rfl) hW hS hf
  · replace hf := hf.2 (fun z => c2 (lg_lt.mpr z))
    refine lv_lload_n hx hb dX11_isWithin_6 rfl (lv_at hl 0 rfl) ?_
    refine lv_lload hx hb dX11_isWithin_7 (lv_at hl 2 rfl) ?_
    refine W.lcmp hx hb dX11_isWithin_9 ?_
    refine lv_if_gt (tgt := 17) hx hb dX11_isWithin_10 (by decide) (fun c3 => ?_) (fun c3 => ?_)
    · replace hf := hf.1 (lg_gt.mp c3)
      exact j17  _ _ _ (lv_sub hl [] rfl) hW hS hf
    · replace hf := hf.2 (fun z => c3 (lg_gt.mpr z))
      refine lv_iconst (v := 1) hx hb dX11_isWithin_13 (by decide +kernel) ?_
      refine lv_goto (tgt := 18) hx hb dX11_isWithin_14 (by decide) ?_
      exact j18 _ _ _ _ (lv_sub hl [] rfl) hW hS hf

abbrev rm_J6_bitCount_0f7a4 : Room := { frames := 2, cells := 0, slots := 0, locals := 80 }
def f_J6_bitCount_0f7a4 (Y : Ly) (v0 : Int32) (M : Mm) (Kn : Int32 → Mm → Prop) : Prop :=
  ∀ x1 : Int32, x1 = v0 - (((v0.toUInt32 >>> ((1 : Int32).toUInt32 &&& Int32.toUInt32 31)).toInt32) &&& 1431655765) → (∀ x2 : Int32, x2 = (x1 &&& 858993459) + (((x1.toUInt32 >>> ((2 : Int32).toUInt32 &&& Int32.toUInt32 31)).toInt32) &&& 858993459) → (∀ x3 : Int32, x3 = (x2 + ((x2.toUInt32 >>> ((4 : Int32).toUInt32 &&& Int32.toUInt32 31)).toInt32)) &&& 252645135 → (∀ x4 : Int32, x4 = x3 + ((x3.toUInt32 >>> ((8 : Int32).toUInt32 &&& Int32.toUInt32 31)).toInt32) → (∀ x5 : Int32, x5 = x4 + ((x4.toUInt32 >>> ((16 : Int32).toUInt32 &&& Int32.toUInt32 31)).toInt32) → (Kn (x5 &&& 63) M)))))
set_option maxHeartbeats 4000000 in
set_option maxRecDepth 100000 in
theorem m_J6_bitCount_0f7a4 (l : Launch) (D : va_G) (cy : Cy) (tq sz : Nat) (Y : Ly) (v0 : Int32) (M : Mm) (Kn : Int32 → Mm → Prop) : Met l yJ6_bitCount_0f7a4 (Cond.code yJ6_bitCount_0f7a4 cJ6_bitCount_0f7a4 1 (some .int) :: TT) rm_J6_bitCount_0f7a4 (PcG D cy tq [.int v0] sz Y M (f_J6_bitCount_0f7a4 Y v0 M Kn)) (va_Qi Kn (BG D cy (Am Y sz) Y) (Am Y sz)) 0 0 (Am Y sz) := by
  refine Met.ofW (cc := cJ6_bitCount_0f7a4) (maxL := 1) (ret := (some .int)) (by decide) rfl ?_
  intro p e s m args below meth c s₁ B hml hv
  obtain ⟨hargs, hsz, hW, hK, hC, hf⟩ := hv
  subst hsz
  have hx := B.exec
  have hb := B.bytes
  have hr := B.returns
  have hts : ∀ w ∈ TT, w.before args s = true := fun w h => atoms_spec (ws := Cond.code yJ6_bitCount_0f7a4 cJ6_bitCount_0f7a4 1 (some .int) :: TT) B.pre w (List.mem_cons_of_mem _ h)
  have hown : s.vm.findClass RJ6 = some m.cls := findClass_of_methodNamed B.named
  have hlocks := B.notSynchronized
  replace hW := Wd_self (sz := s.heap.size) hW
  generalize hAe : Am Y s.heap.size = A at hW hC ⊢
  have hA : ∀ q : Nat, s.heap.size ≤ q → A q := fun q h => by rw [← hAe]; exact Or.inr h
  clear hAe
  have hS : va_S A s.heap s.heap [] := va_S.rf
  obtain ⟨ls, hE, hl⟩ := gm_entry m [.int v0] (n := 1) hargs (Nat.le_of_ble_eq_true rfl)
  rw [hE]
  have hl : lv_has ls 1 [(0, .int v0)] := hl
  show W p l e rm_J6_bitCount_0f7a4 s m args below meth c s.heap [] 0 0 (MQ below (va_Qi Kn (BG D cy A Y) A) args s 0 0 A) (F0 m 0 ls [])
  unfold f_J6_bitCount_0f7a4 at hf
  refine lv_iload_n hx hb dJ6_bitCount_0f7a4_0 rfl (lv_at hl 0 rfl) ?_
  refine lv_iload_n hx hb dJ6_bitCount_0f7a4_1 rfl (lv_at hl 0 rfl) ?_
  refine lv_iconst (v := 1) hx hb dJ6_bitCount_0f7a4_2 (by decide +kernel) ?_
  refine lv_iushr hx hb dJ6_bitCount_0f7a4_3 rfl ?_
  refine lv_ldcw (v := 1431655765) hx hb hown (hts _ kw_1218) dJ6_bitCount_0f7a4_4 ?_
  refine lv_iand hx hb dJ6_bitCount_0f7a4_7 ?_
  refine lv_isub hx hb dJ6_bitCount_0f7a4_8 ?_
  refine lv_topi (fun x1 ex1 => ?_)
  replace hf := hf x1 ex1
  refine lv_istore_n (lv' := [(0, .int x1)]) hx hb dJ6_bitCount_0f7a4_9 rfl hl (by decide) rfl (fun ls hl => ?_)
  refine lv_iload_n hx hb dJ6_bitCount_0f7a4_10 rfl (lv_at hl 0 rfl) ?_
  refine lv_ldcw (v := 858993459) hx hb hown (hts _ kw_1219) dJ6_bitCount_0f7a4_11 ?_
  refine lv_iand hx hb dJ6_bitCount_0f7a4_14 ?_
  refine lv_iload_n hx hb dJ6_bitCount_0f7a4_15 rfl (lv_at hl 0 rfl) ?_
  refine lv_iconst (v := 2) hx hb dJ6_bitCount_0f7a4_16 (by decide +kernel) ?_
  refine lv_iushr hx hb dJ6_bitCount_0f7a4_17 rfl ?_
  refine lv_ldcw (v := 858993459) hx hb hown (hts _ kw_1219) dJ6_bitCount_0f7a4_18 ?_
  refine lv_iand hx hb dJ6_bitCount_0f7a4_21 ?_
  refine lv_iadd hx hb dJ6_bitCount_0f7a4_22 ?_
  refine lv_topi (fun x2 ex2 => ?_)
  replace hf := hf x2 ex2
  refine lv_istore_n (lv' := [(0, .int x2)]) hx hb dJ6_bitCount_0f7a4_23 rfl hl (by decide) rfl (fun ls hl => ?_)
  refine lv_iload_n hx hb dJ6_bitCount_0f7a4_24 rfl (lv_at hl 0 rfl) ?_
  refine lv_iload_n hx hb dJ6_bitCount_0f7a4_25 rfl (lv_at hl 0 rfl) ?_
  refine lv_iconst (v := 4) hx hb dJ6_bitCount_0f7a4_26 (by decide +kernel) ?_
  refine lv_iushr hx hb dJ6_bitCount_0f7a4_27 rfl ?_
  refine lv_iadd hx hb dJ6_bitCount_0f7a4_28 ?_
  refine lv_ldcw (v := 252645135) hx hb hown (hts _ kw_1220) dJ6_bitCount_0f7a4_29 ?_
  refine lv_iand hx hb dJ6_bitCount_0f7a4_32 ?_
  refine lv_topi (fun x3 ex3 => ?_)
  replace hf := hf x3 ex3
  refine lv_istore_n (lv' := [(0, .int x3)]) hx hb dJ6_bitCount_0f7a4_33 rfl hl (by decide) rfl (fun ls hl => ?_)
  refine lv_iload_n hx hb dJ6_bitCount_0f7a4_34 rfl (lv_at hl 0 rfl) ?_
  refine lv_iload_n hx hb dJ6_bitCount_0f7a4_35 rfl (lv_at hl 0 rfl) ?_
  refine lv_bipush (v := 8) hx hb dJ6_bitCount_0f7a4_36 (by decide +kernel) ?_
  refine lv_iushr hx hb dJ6_bitCount_0f7a4_38 rfl ?_
  refine lv_iadd hx hb dJ6_bitCount_0f7a4_39 ?_
  refine lv_topi (fun x4 ex4 => ?_)
  replace hf := hf x4 ex4
  refine lv_istore_n (lv' := [(0, .int x4)]) hx hb dJ6_bitCount_0f7a4_40 rfl hl (by decide) rfl (fun ls hl => ?_)
  refine lv_iload_n hx hb dJ6_bitCount_0f7a4_41 rfl (lv_at hl 0 rfl) ?_
  refine lv_iload_n hx hb dJ6_bitCount_0f7a4_42 rfl (lv_at hl 0 rfl) ?_
  refine lv_bipush (v := 16) hx hb dJ6_bitCount_0f7a4_43 (by decide +kernel) ?_
  refine lv_iushr hx hb dJ6_bitCount_0f7a4_45 rfl ?_
  refine lv_iadd hx hb dJ6_bitCount_0f7a4_46 ?_
  refine lv_topi (fun x5 ex5 => ?_)
  replace hf := hf x5 ex5
  refine lv_istore_n (lv' := [(0, .int x5)]) hx hb dJ6_bitCount_0f7a4_47 rfl hl (by decide) rfl (fun ls hl => ?_)
  refine lv_iload_n hx hb dJ6_bitCount_0f7a4_48 rfl (lv_at hl 0 rfl) ?_
  refine lv_bipush (v := 63) hx hb dJ6_bitCount_0f7a4_49 (by decide +kernel) ?_
  refine lv_iand hx hb dJ6_bitCount_0f7a4_51 ?_
  exact gm_iret hx hb hr hlocks hW hS hf dJ6_bitCount_0f7a4_52
