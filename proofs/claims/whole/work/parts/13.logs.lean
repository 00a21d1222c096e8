/-! by gen.py: what the methods do, and that they do it -/
abbrev rm_X9_markSegment : Room := { frames := 2, cells := 0, slots := 0, locals := 80 }
def f_X9_markSegment_38 (Y : Ly) (Kn : Mm → Prop) (M2 : Mm) : Prop :=
  Kn M2
def L_X9_markSegment_2 (Y : Ly) (v0 : Nat) (v1 : Int32) (Kn : Mm → Prop) (x1 : Int32) (M2 : Mm) (again2 : Int32 → Mm → Prop) : Prop :=
  yK Y v0 = 9 ∧ (((v1 + (mI M2 v0 2)) ≤ x1 → (f_X9_markSegment_38 Y Kn M2)) ∧ (¬ ((v1 + (mI M2 v0 2)) ≤ x1) → (∃ b5 : Nat, mR M2 v0 4 = some b5 ∧ (yK Y b5 = 100 ∧ (((nI (yN Y b5)) ≤ x1 → (f_X9_markSegment_38 Y Kn M2)) ∧ (¬ ((nI (yN Y b5)) ≤ x1) → (∃ b8 : Nat, mR M2 v0 4 = some b8 ∧ (yK Y b8 = 100 ∧ (vp_in x1 (yN Y b8) ∧ (vp_in x1 (yN Y b8) ∧ (∀ M12 : Mm, M12 = sI M2 b8 (m1 (mI M2 b8) x1.toNatClampNeg ((((mI M2 b8 x1.toNatClampNeg) + 1).toInt8.toInt32).toInt8.toInt32)) → (∀ x13 : Int32, x13 = x1 + 1 → (again2 x13 M12)))))))))))))
def f_X9_markSegment (Y : Ly) (v0 : Nat) (v1 : Int32) (M : Mm) (Kn : Mm → Prop) : Prop :=
  ∃ n, LOOP2 (L_X9_markSegment_2 Y v0 v1 Kn) n v1 M
set_option maxHeartbeats 4000000 in
set_option maxRecDepth 100000 in
theorem m_X9_markSegment (l : Launch) (D : va_G) (cy : Cy) (tq sz : Nat) (Y : Ly) (v0 : Nat) (v1 : Int32) (M : Mm) (Kn : Mm → Prop) : Met l yX9_markSegment (Cond.code yX9_markSegment cX9_markSegment 3 none :: TT) rm_X9_markSegment (PcG D cy tq [.ref v0, .int v1] sz Y M (f_X9_markSegment Y v0 v1 M Kn)) (va_Qv Kn (BG D cy (Am Y sz) Y) (Am Y sz)) 0 0 (Am Y sz) := by
  refine Met.ofW (cc := cX9_markSegment) (maxL := 3) (ret := none) (by decide) rfl ?_
  intro p e s m args below meth c s₁ B hml hv
  obtain ⟨hargs, hsz, hW, hK, hC, hf⟩ := hv
  subst hsz
  have hx := B.exec
  have hb := B.bytes
  have hr := B.returns
  have hts : ∀ w ∈ TT, w.before args s = true := fun w h => atoms_spec (ws := Cond.code yX9_markSegment cX9_markSegment 3 none :: TT) B.pre w (List.mem_cons_of_mem _ h)
  have hown : s.vm.findClass RX9 = some m.cls := findClass_of_methodNamed B.named
  have hlocks := B.notSynchronized
  replace hW := Wd_self (sz := s.heap.size) hW
  generalize hAe : Am Y s.heap.size = A at hW hC ⊢
  have hA : ∀ q : Nat, s.heap.size ≤ q → A q := fun q h => by rw [← hAe]; exact Or.inr h
  clear hAe
  have hS : va_S A s.heap s.heap [] := va_S.rf
  obtain ⟨ls, hE, hl⟩ := gm_entry m [.ref v0, .int v1] (n := 3) hargs (Nat.le_of_ble_eq_true rfl)
  rw [hE]
  have hl : lv_has ls 3 [(0, .ref v0), (1, .int v1)] := hl
  show W p l e rm_X9_markSegment s m args below meth c s.heap [] 0 0 (MQ below (va_Qv Kn (BG D cy A Y) A) args s 0 0 A) (F0 m 0 ls [])
  unfold f_X9_markSegment at hf
  refine lv_iload_n hx hb dX9_markSegment_0 rfl (lv_at hl 1 rfl) ?_
  refine lv_istore_n (lv' := [(2, .int v1), (0, .ref v0), (1, .int v1)]) hx hb dX9_markSegment_1 rfl hl (by decide) rfl (fun ls hl => ?_)
  obtain ⟨n2, hf⟩ := hf
  have lp2 : ∀ (n2 : Nat) (x1 : Int32) (M2 : Mm) (H : Heap) (locs : List Loc) (ls : Array Slot), lv_has ls 3 [(0, .ref v0), (1, .int v1), (2, .int x1)] → Wd D cy A Y M2 H → va_S A s.heap H locs → LOOP2 (L_X9_markSegment_2 Y v0 v1 Kn) n2 x1 M2 → W p l e rm_X9_markSegment s m args below meth c H locs 0 0 (MQ below (va_Qv Kn (BG D cy A Y) A) args s 0 0 A) (F0 m 2 ls []) := by
    intro n2
    induction n2 with
    | zero => intro x1 M2 H locs ls hl hW hS hf; exact hf.elim
    | succ n2 ih2 =>
      intro x1 M2 H locs ls hl hW hS hf
      replace hf : L_X9_markSegment_2 Y v0 v1 Kn x1 M2 (LOOP2 (L_X9_markSegment_2 Y v0 v1 Kn) n2) := hf
      unfold L_X9_markSegment_2 at hf
      refine lv_iload_n hx hb dX9_markSegment_2 rfl (lv_at hl 2 rfl) ?_
      refine lv_iload_n hx hb dX9_markSegment_3 rfl (lv_at hl 1 rfl) ?_
      refine lv_aload_n hx hb dX9_markSegment_4 rfl (lv_at hl 0 rfl) ?_
      obtain ⟨k3, hf⟩ := hf
      refine gm_getI (C := RX9) (T := TX9) (N := 7) (j := 2) hx hb hts inT_9 hown hK hW k3 (by decide) rfl (by decide) rfl (hts _ kw_219) rfl dX9_markSegment_5 ?_
      refine lv_iadd hx hb dX9_markSegment_8 ?_
      have j38 : ∀ (H : Heap) (locs : List Loc) (ls : Array Slot), lv_has ls 3 [] → Wd D cy A Y M2 H → va_S A s.heap H locs → f_X9_markSegment_38 Y Kn M2  → W p l e rm_X9_markSegment s m args below meth c H locs 0 0 (MQ below (va_Qv Kn (BG D cy A Y) A) args s 0 0 A) (F0 m 38 ls []) := by
        intro  H locs ls hl hW hS hf
        unfold f_X9_markSegment_38 at hf
        exact gm_vret hx hb hr hlocks hW hS hf dX9_markSegment_38
      refine lv_icmp_ge (tgt := 38) hx hb dX9_markSegment_9 (by decide) (fun c4 => ?_) (fun c4 => ?_)
      · replace hf := hf.1 c4
        exact j38  _ _ _ (lv_sub hl [] rfl) hW hS hf
      · replace hf := hf.2 c4
        refine lv_iload_n hx hb dX9_markSegment_12 rfl (lv_at hl 2 rfl) ?_
        refine lv_aload_n hx hb dX9_markSegment_13 rfl (lv_at hl 0 rfl) ?_
        obtain ⟨b5, hb5, hf⟩ := hf
        refine gm_getR (C := RX9) (T := TX9) (N := 7) (j := 4) hx hb hts inT_9 hown hK hW k3 (by decide) rfl (by decide) rfl (hts _ kw_222) rfl dX9_markSegment_14 hb5 ?_
        obtain ⟨k6, hf⟩ := hf
        refine gm_alen hx hb hK hW (by rw [k6]; decide) dX9_markSegment_17 ?_
        refine lv_icmp_ge (tgt := 38) hx hb dX9_markSegment_18 (by decide) (fun c7 => ?_) (fun c7 => ?_)
        · replace hf := hf.1 c7
          exact j38  _ _ _ (lv_sub hl [] rfl) hW hS hf
        · replace hf := hf.2 c7
          refine lv_aload_n hx hb dX9_markSegment_21 rfl (lv_at hl 0 rfl) ?_
          obtain ⟨b8, hb8, hf⟩ := hf
          refine gm_getR (C := RX9) (T := TX9) (N := 7) (j := 4) hx hb hts inT_9 hown hK hW k3 (by decide) rfl (by decide) rfl (hts _ kw_222) rfl dX9_markSegment_22 hb8 ?_
          refine lv_iload_n hx hb dX9_markSegment_25 rfl (lv_at hl 2 rfl) ?_
          refine lv_dup2_11 hx hb dX9_markSegment_26 rfl rfl ?_
          obtain ⟨k9, hf⟩ := hf
          obtain ⟨h10, hf⟩ := hf
          refine gm_bald hx hb hK hW k9 h10 dX9_markSegment_27 ?_
          refine lv_iconst (v := 1) hx hb dX9_markSegment_28 (by decide +kernel) ?_
          refine lv_iadd hx hb dX9_markSegment_29 ?_
          refine lv_i2b hx hb dX9_markSegment_30 rfl ?_
          obtain ⟨h11, hf⟩ := hf
          refine gm_bast hx hb hK hW hS k9 h11 dX9_markSegment_31 (fun H locs M12 eM12 hW hS => ?_)
          replace hf := hf M12 eM12
          obtain ⟨x13, ex13⟩ : ∃ y : Int32, y = x1 + 1 := ⟨_, rfl⟩
          replace hf := hf x13 ex13
          refine lv_iinc (v := x13) (lv' := [(2, .int x13), (0, .ref v0), (1, .int v1)]) hx hb dX9_markSegment_32 hl (k := 2) rfl (by rw [ex13]; rfl) (by decide) rfl (fun ls hl => ?_)
          refine lv_goto (tgt := 2) hx hb dX9_markSegment_35 (by decide) ?_
          exact ih2 _ _ _ _ _ (lv_sub hl [1, 2, 0] rfl) hW hS hf
  exact lp2 n2 _ _ _ _ _ (lv_sub hl [1, 2, 0] rfl) hW hS hf

abbrev rm_X9_countUses : Room := { frames := 3, cells := 0, slots := 0, locals := 103 }
def L_X9_countUses_31 (Y : Ly) (v0 : Nat) (x7 : Int32) (again18 : Int32 → Mm → Prop) (b11 : Nat) (x12 : Int32) (M13 : Mm) (again31 : Int32 → Mm → Prop) : Prop :=
  yK Y b11 = 8 ∧ (((mI M13 b11 3) ≤ x12 → (∀ x16 : Int32, x16 = x7 + 1 → (again18 x16 M13))) ∧ (¬ ((mI M13 b11 3) ≤ x12) → (∃ b17 : Nat, mR M13 b11 4 = some b17 ∧ (yK Y b17 = 101 ∧ (vp_in x12 (yN Y b17) ∧ (f_X9_markSegment Y v0 (mI M13 b17 x12.toNatClampNeg) M13 (fun M20 => (∀ x21 : Int32, x21 = x12 + 1 → (again31 x21 M20)))))))))
def L_X9_countUses_18 (Y : Ly) (v0 : Nat) (Kn : Mm → Prop) (b4 : Nat) (x6 : Int32) (x7 : Int32) (M8 : Mm) (again18 : Int32 → Mm → Prop) : Prop :=
  (x6 ≤ x7 → (Kn M8)) ∧ (¬ (x6 ≤ x7) → (vp_in x7 (yN Y b4) ∧ (∃ b11 : Nat, mR M8 b4 x7.toNatClampNeg = some b11 ∧ (∃ n, LOOP2 (L_X9_countUses_31 Y v0 x7 again18 b11) n 0 M8))))
def f_X9_countUses (Y : Ly) (v0 : Nat) (M : Mm) (Kn : Mm → Prop) : Prop :=
  yK Y v0 = 9 ∧ (∃ b2 : Nat, mR M v0 4 = some b2 ∧ (f_J7_fill_031fb Y b2 0 M (fun M3 => (∃ b4 : Nat, mR M3 v0 1 = some b4 ∧ (yK Y b4 = 104 ∧ (∀ x6 : Int32, x6 = nI (yN Y b4) → (∃ n, LOOP2 (L_X9_countUses_18 Y v0 Kn b4 x6) n 0 M3)))))))
set_option maxHeartbeats 4000000 in
set_option maxRecDepth 100000 in
theorem m_X9_countUses (l : Launch) (D : va_G) (cy : Cy) (tq sz : Nat) (Y : Ly) (v0 : Nat) (M : Mm) (Kn : Mm → Prop) : Met l yX9_countUses (Cond.code yX9_countUses cX9_countUses 6 none :: TT) rm_X9_countUses (PcG D cy tq [.ref v0] sz Y M (f_X9_countUses Y v0 M Kn)) (va_Qv Kn (BG D cy (Am Y sz) Y) (Am Y sz)) 0 0 (Am Y sz) := by
  refine Met.ofW (cc := cX9_countUses) (maxL := 6) (ret := none) (by decide) rfl ?_
  intro p e s m args below meth c s₁ B hml hv
  obtain ⟨hargs, hsz, hW, hK, hC, hf⟩ := hv
  subst hsz
  have hx := B.exec
  have hb := B.bytes
  have hr := B.returns
  have hts : ∀ w ∈ TT, w.before args s = true := fun w h => atoms_spec (ws := Cond.code yX9_countUses cX9_countUses 6 none :: TT) B.pre w (List.mem_cons_of_mem _ h)
  have hown : s.vm.findClass RX9 = some m.cls := findClass_of_methodNamed B.named
  have hlocks := B.notSynchronized
  replace hW := Wd_self (sz := s.heap.size) hW
  generalize hAe : Am Y s.heap.size = A at hW hC ⊢
  have hA : ∀ q : Nat, s.heap.size ≤ q → A q := fun q h => by rw [← hAe]; exact Or.inr h
  clear hAe
  have hS : va_S A s.heap s.heap [] := va_S.rf
  obtain ⟨ls, hE, hl⟩ := gm_entry m [.ref v0] (n := 6) hargs (Nat.le_of_ble_eq_true rfl)
  rw [hE]
  have hl : lv_has ls 6 [(0, .ref v0)] := hl
  show W p l e rm_X9_countUses s m args below meth c s.heap [] 0 0 (MQ below (va_Qv Kn (BG D cy A Y) A) args s 0 0 A) (F0 m 0 ls [])
  unfold f_X9_countUses at hf
  refine lv_aload_n hx hb dX9_countUses_0 rfl (lv_at hl 0 rfl) ?_
  obtain ⟨k1, hf⟩ := hf
  obtain ⟨b2, hb2, hf⟩ := hf
  refine gm_getR (C := RX9) (T := TX9) (N := 7) (j := 4) hx hb hts inT_9 hown hK hW k1 (by decide) rfl (by decide) rfl (hts _ kw_222) rfl dX9_countUses_1 hb2 ?_
  refine lv_iconst (v := 0) hx hb dX9_countUses_4 (by decide +kernel) ?_
  refine gm_cv (va_runS (As := [.ref b2, .int 0]) (rest := []) ⟨hx, hb, hml, hown, hts⟩ (m_J7_fill_031fb l D cy tq _ Y _ _ _ _) (va_cwS 2 hts (good_S kw_903 kw_904 kw_21 kw_905) rfl rfl rfl (by decide +kernel) ⟨Nat.le_of_ble_eq_true rfl, Nat.le_of_ble_eq_true rfl⟩) (gm_preS hK hW hC hS hA hf) rfl rfl hl.1 rfl (lv_room (Nat.le_of_ble_eq_true rfl)) dX9_countUses_5 ⟨Nat.le_of_ble_eq_true rfl, Nat.le_of_ble_eq_true rfl⟩) hW hS hA (fun M3 H locs hW hS hf => ?_)
  refine lv_aload_n hx hb dX9_countUses_8 rfl (lv_at hl 0 rfl) ?_
  obtain ⟨b4, hb4, hf⟩ := hf
  refine gm_getR (C := RX9) (T := TX9) (N := 7) (j := 1) hx hb hts inT_9 hown hK hW k1 (by decide) rfl (by decide) rfl (hts _ kw_216) rfl dX9_countUses_9 hb4 ?_
  refine lv_astore_n (lv' := [(1, .ref b4), (0, .ref v0)]) hx hb dX9_countUses_12 rfl hl (by decide) rfl (fun ls hl => ?_)
  refine lv_aload_n hx hb dX9_countUses_13 rfl (lv_at hl 0 rfl) ?_
  obtain ⟨k5, hf⟩ := hf
  refine gm_alen hx hb hK hW (by rw [k5]; decide) dX9_countUses_14 ?_
  refine lv_topi (fun x6 ex6 => ?_)
  replace hf := hf x6 ex6
  refine lv_istore_n (lv' := [(2, .int x6), (1, .ref b4), (0, .ref v0)]) hx hb dX9_countUses_15 rfl hl (by decide) rfl (fun ls hl => ?_)
  refine lv_iconst (v := 0) hx hb dX9_countUses_16 (by decide +kernel) ?_
  refine lv_istore_n (lv' := [(3, .int 0), (2, .int x6), (1, .ref b4), (0, .ref v0)]) hx hb dX9_countUses_17 rfl hl (by decide) rfl (fun ls hl => ?_)
  obtain ⟨n18, hf⟩ := hf
  have lp18 : ∀ (n18 : Nat) (x7 : Int32) (M8 : Mm) (H : Heap) (locs : List Loc) (ls : Array Slot), lv_has ls 6 [(0, .ref v0), (1, .ref b4), (2, .int x6), (3, .int x7)] → Wd D cy A Y M8 H → va_S A s.heap H locs → LOOP2 (L_X9_countUses_18 Y v0 Kn b4 x6) n18 x7 M8 → W p l e rm_X9_countUses s m args below meth c H locs 0 0 (MQ below (va_Qv Kn (BG D cy A Y) A) args s 0 0 A) (F0 m 18 ls []) := by
    intro n18
    induction n18 with
    | zero => intro x7 M8 H locs ls hl hW hS hf; exact hf.elim
    | succ n18 ih18 =>
      intro x7 M8 H locs ls hl hW hS hf
      replace hf : L_X9_countUses_18 Y v0 Kn b4 x6 x7 M8 (LOOP2 (L_X9_countUses_18 Y v0 Kn b4 x6) n18) := hf
      unfold L_X9_countUses_18 at hf
      refine lv_iload_n hx hb dX9_countUses_18 rfl (lv_at hl 3 rfl) ?_
      refine lv_iload_n hx hb dX9_countUses_19 rfl (lv_at hl 2 rfl) ?_
      refine lv_icmp_ge (tgt := 65) hx hb dX9_countUses_20 (by decide) (fun c9 => ?_) (fun c9 => ?_)
      · replace hf := hf.1 c9
        exact gm_vret hx hb hr hlocks hW hS hf dX9_countUses_65
      · replace hf := hf.2 c9
        refine lv_aload_n hx hb dX9_countUses_23 rfl (lv_at hl 1 rfl) ?_
        refine lv_iload_n hx hb dX9_countUses_24 rfl (lv_at hl 3 rfl) ?_
        obtain ⟨h10, hf⟩ := hf
        obtain ⟨b11, hb11, hf⟩ := hf
        refine gm_aald hx hb hK hW k5 h10 hb11 dX9_countUses_25 ?_
        refine lv_astore (lv' := [(4, .ref b11), (0, .ref v0), (1, .ref b4), (2, .int x6), (3, .int x7)]) hx hb dX9_countUses_26 hl (by decide) rfl (fun ls hl => ?_)
        refine lv_iconst (v := 0) hx hb dX9_countUses_28 (by decide +kernel) ?_
        refine lv_istore (lv' := [(5, .int 0), (4, .ref b11), (0, .ref v0), (1, .ref b4), (2, .int x6), (3, .int x7)]) hx hb dX9_countUses_29 hl (by decide) rfl (fun ls hl => ?_)
        obtain ⟨n31, hf⟩ := hf
        have lp31 : ∀ (n31 : Nat) (x12 : Int32) (M13 : Mm) (H : Heap) (locs : List Loc) (ls : Array Slot), lv_has ls 6 [(0, .ref v0), (1, .ref b4), (2, .int x6), (3, .int x7), (4, .ref b11), (5, .int x12)] → Wd D cy A Y M13 H → va_S A s.heap H locs → LOOP2 (L_X9_countUses_31 Y v0 x7 (LOOP2 (L_X9_countUses_18 Y v0 Kn b4 x6) n18) b11) n31 x12 M13 → W p l e rm_X9_countUses s m args below meth c H locs 0 0 (MQ below (va_Qv Kn (BG D cy A Y) A) args s 0 0 A) (F0 m 31 ls []) := by
          intro n31
          induction n31 with
          | zero => intro x12 M13 H locs ls hl hW hS hf; exact hf.elim
          | succ n31 ih31 =>
            intro x12 M13 H locs ls hl hW hS hf
            replace hf : L_X9_countUses_31 Y v0 x7 (LOOP2 (L_X9_countUses_18 Y v0 Kn b4 x6) n18) b11 x12 M13 (LOOP2 (L_X9_countUses_31 Y v0 x7 (LOOP2 (L_X9_countUses_18 Y v0 Kn b4 x6) n18) b11) n31) := hf
            unfold L_X9_countUses_31 at hf
            refine lv_iload hx hb dX9_countUses_31 (lv_at hl 5 rfl) ?_
            refine lv_aload hx hb dX9_countUses_33 (lv_at hl 4 rfl) ?_
            obtain ⟨k14, hf⟩ := hf
            refine gm_getI (C := RX8) (T := TX8) (N := 9) (j := 3) hx hb hts inT_8 hown hK hW k14 (by decide) rfl (by decide) rfl (hts _ kw_180) rfl dX9_countUses_35 ?_
            refine lv_icmp_ge (tgt := 59) hx hb dX9_countUses_38 (by decide) (fun c15 => ?_) (fun c15 => ?_)
            · replace hf := hf.1 c15
              obtain ⟨x16, ex16⟩ : ∃ y : Int32, y = x7 + 1 := ⟨_, rfl⟩
              replace hf := hf x16 ex16
              refine lv_iinc (v := x16) (lv' := [(3, .int x16), (0, .ref v0), (1, .ref b4), (2, .int x6), (4, .ref b11), (5, .int x12)]) hx hb dX9_countUses_59 hl (k := 3) rfl (by rw [ex16]; rfl) (by decide) rfl (fun ls hl => ?_)
              refine lv_goto (tgt := 18) hx hb dX9_countUses_62 (by decide) ?_
              exact ih18 _ _ _ _ _ (lv_sub hl [1, 2, 3, 0] rfl) hW hS hf
            · replace hf := hf.2 c15
              refine lv_aload_n hx hb dX9_countUses_41 rfl (lv_at hl 0 rfl) ?_
              refine lv_aload hx hb dX9_countUses_42 (lv_at hl 4 rfl) ?_
              obtain ⟨b17, hb17, hf⟩ := hf
              refine gm_getR (C := RX8) (T := TX8) (N := 9) (j := 4) hx hb hts inT_8 hown hK hW k14 (by decide) rfl (by decide) rfl (hts _ kw_184) rfl dX9_countUses_44 hb17 ?_
              refine lv_iload hx hb dX9_countUses_47 (lv_at hl 5 rfl) ?_
              obtain ⟨k18, hf⟩ := hf
              obtain ⟨h19, hf⟩ := hf
              refine gm_iald hx hb hK hW k18 h19 dX9_countUses_49 ?_
              refine gm_cv (va_runV (As := [.int (mI M13 b17 x12.toNatClampNeg)]) (rest := []) ⟨hx, hb, hml, hown, hts⟩ (m_X9_markSegment l D cy tq _ Y _ _ _ _) (cwV 1 hts (good_V kw_906 kw_907 kw_1799 kw_8 kw_908) rfl rfl rfl (by decide +kernel) ⟨Nat.le_of_ble_eq_true rfl, Nat.le_of_ble_eq_true rfl⟩) (gm_preV hK hW hC hS hA k1 (by decide) (q := (RX9, TX9, 7)) rfl rfl hf) rfl rfl hl.1 rfl (lv_room (Nat.le_of_ble_eq_true rfl)) dX9_countUses_50 ⟨Nat.le_of_ble_eq_true rfl, Nat.le_of_ble_eq_true rfl⟩) hW hS hA (fun M20 H locs hW hS hf => ?_)
              obtain ⟨x21, ex21⟩ : ∃ y : Int32, y = x12 + 1 := ⟨_, rfl⟩
              replace hf := hf x21 ex21
              refine lv_iinc (v := x21) (lv' := [(5, .int x21), (0, .ref v0), (1, .ref b4), (2, .int x6), (3, .int x7), (4, .ref b11)]) hx hb dX9_countUses_53 hl (k := 5) rfl (by rw [ex21]; rfl) (by decide) rfl (fun ls hl => ?_)
              refine lv_goto (tgt := 31) hx hb dX9_countUses_56 (by decide) ?_
              exact ih31 _ _ _ _ _ (lv_sub hl [1, 2, 3, 4, 5, 0] rfl) hW hS hf
        exact lp31 n31 _ _ _ _ _ (lv_sub hl [2, 3, 4, 5, 1, 0] rfl) hW hS hf
  exact lp18 n18 _ _ _ _ _ (lv_sub hl [3, 2, 1, 0] rfl) hW hS hf

abbrev rm_X9_takeSegment : Room := { frames := 3, cells := 0, slots := 0, locals := 102 }
def f_X9_takeSegment_32 (Y : Ly) (v0 : Nat) (M : Mm) (Kn : Int32 → Mm → Prop) (x4 : Int32) (again7 : Int32 → Int32 → Prop) (y11 : Int32) : Prop :=
  (¬ y11 = (mI M v0 2) → (∀ x13 : Int32, x13 = x4 + 1 → (again7 y11 x13))) ∧ (y11 = (mI M v0 2) → (∀ x14 : Int32, x14 = (x4 - (mI M v0 2)) + 1 → (f_X9_markSegment Y v0 x14 M (fun M15 => (Kn x14 M15)))))
def L_X9_takeSegment_7 (Y : Ly) (v0 : Nat) (M : Mm) (Kn : Int32 → Mm → Prop) (x3 : Int32) (x4 : Int32) (again7 : Int32 → Int32 → Prop) : Prop :=
  ∃ b5 : Nat, mR M v0 4 = some b5 ∧ (yK Y b5 = 100 ∧ (((nI (yN Y b5)) ≤ x4 → (Kn (-1) M)) ∧ (¬ ((nI (yN Y b5)) ≤ x4) → (∃ b8 : Nat, mR M v0 4 = some b8 ∧ (yK Y b8 = 100 ∧ (vp_in x4 (yN Y b8) ∧ ((¬ (mI M b8 x4.toNatClampNeg) = 0 → (f_X9_takeSegment_32 Y v0 M Kn x4 again7 0)) ∧ ((mI M b8 x4.toNatClampNeg) = 0 → (f_X9_takeSegment_32 Y v0 M Kn x4 again7 (x3 + 1))))))))))
def f_X9_takeSegment (Y : Ly) (v0 : Nat) (M : Mm) (Kn : Int32 → Mm → Prop) : Prop :=
  yK Y v0 = 9 ∧ (∀ x2 : Int32, x2 = mI M v0 3 → (∃ n, LOOP2 (L_X9_takeSegment_7 Y v0 M Kn) n 0 x2))
set_option maxHeartbeats 4000000 in
set_option maxRecDepth 100000 in
theorem m_X9_takeSegment (l : Launch) (D : va_G) (cy : Cy) (tq sz : Nat) (Y : Ly) (v0 : Nat) (M : Mm) (Kn : Int32 → Mm → Prop) : Met l yX9_takeSegment (Cond.code yX9_takeSegment cX9_takeSegment 4 (some .int) :: TT) rm_X9_takeSegment (PcG D cy tq [.ref v0] sz Y M (f_X9_takeSegment Y v0 M Kn)) (va_Qi Kn (BG D cy (Am Y sz) Y) (Am Y sz)) 0 0 (Am Y sz) := by
  refine Met.ofW (cc := cX9_takeSegment) (maxL := 4) (ret := (some .int)) (by decide) rfl ?_
  intro p e s m args below meth c s₁ B hml hv
  obtain ⟨hargs, hsz, hW, hK, hC, hf⟩ := hv
  subst hsz
  have hx := B.exec
  have hb := B.bytes
  have hr := B.returns
  have hts : ∀ w ∈ TT, w.before args s = true := fun w h => atoms_spec (ws := Cond.code yX9_takeSegment cX9_takeSegment 4 (some .int) :: TT) B.pre w (List.mem_cons_of_mem _ h)
  have hown : s.vm.findClass RX9 = some m.cls := findClass_of_methodNamed B.named
  have hlocks := B.notSynchronized
  replace hW := Wd_self (sz := s.heap.size) hW
  generalize hAe : Am Y s.heap.size = A at hW hC ⊢
  have hA : ∀ q : Nat, s.heap.size ≤ q → A q := fun q h => by rw [← hAe]; exact Or.inr h
  clear hAe
  have hS : va_S A s.heap s.heap [] := va_S.rf
  obtain ⟨ls, hE, hl⟩ := gm_entry m [.ref v0] (n := 4) hargs (Nat.le_of_ble_eq_true rfl)
  rw [hE]
  have hl : lv_has ls 4 [(0, .ref v0)] := hl
  show W p l e rm_X9_takeSegment s m args below meth c s.heap [] 0 0 (MQ below (va_Qi Kn (BG D cy A Y) A) args s 0 0 A) (F0 m 0 ls [])
  unfold f_X9_takeSegment at hf
  refine lv_iconst (v := 0) hx hb dX9_takeSegment_0 (by decide +kernel) ?_
  refine lv_istore_n (lv' := [(1, .int 0), (0, .ref v0)]) hx hb dX9_takeSegment_1 rfl hl (by decide) rfl (fun ls hl => ?_)
  refine lv_aload_n hx hb dX9_takeSegment_2 rfl (lv_at hl 1 rfl) ?_
  obtain ⟨k1, hf⟩ := hf
  refine gm_getI (C := RX9) (T := TX9) (N := 7) (j := 3) hx hb hts inT_9 hown hK hW k1 (by decide) rfl (by decide) rfl (hts _ kw_221) rfl dX9_takeSegment_3 ?_
  refine lv_topi (fun x2 ex2 => ?_)
  replace hf := hf x2 ex2
  refine lv_istore_n (lv' := [(2, .int x2), (1, .int 0), (0, .ref v0)]) hx hb dX9_takeSegment_6 rfl hl (by decide) rfl (fun ls hl => ?_)
  obtain ⟨n7, hf⟩ := hf
  have lp7 : ∀ (n7 : Nat) (x3 : Int32) (x4 : Int32) (H : Heap) (locs : List Loc) (ls : Array Slot), lv_has ls 4 [(0, .ref v0), (1, .int x3), (2, .int x4)] → Wd D cy A Y M H → va_S A s.heap H locs → LOOP2 (L_X9_takeSegment_7 Y v0 M Kn) n7 x3 x4 → W p l e rm_X9_takeSegment s m args below meth c H locs 0 0 (MQ below (va_Qi Kn (BG D cy A Y) A) args s 0 0 A) (F0 m 7 ls []) := by
    intro n7
    induction n7 with
    | zero => intro x3 x4 H locs ls hl hW hS hf; exact hf.elim
    | succ n7 ih7 =>
      intro x3 x4 H locs ls hl hW hS hf
      replace hf : L_X9_takeSegment_7 Y v0 M Kn x3 x4 (LOOP2 (L_X9_takeSegment_7 Y v0 M Kn) n7) := hf
      unfold L_X9_takeSegment_7 at hf
      refine lv_iload_n hx hb dX9_takeSegment_7 rfl (lv_at hl 2 rfl) ?_
      refine lv_aload_n hx hb dX9_takeSegment_8 rfl (lv_at hl 0 rfl) ?_
      obtain ⟨b5, hb5, hf⟩ := hf
      refine gm_getR (C := RX9) (T := TX9) (N := 7) (j := 4) hx hb hts inT_9 hown hK hW k1 (by decide) rfl (by decide) rfl (hts _ kw_222) rfl dX9_takeSegment_9 hb5 ?_
      obtain ⟨k6, hf⟩ := hf
      refine gm_alen hx hb hK hW (by rw [k6]; decide) dX9_takeSegment_12 ?_
      refine lv_icmp_ge (tgt := 63) hx hb dX9_takeSegment_13 (by decide) (fun c7 => ?_) (fun c7 => ?_)
      · replace hf := hf.1 c7
        refine lv_iconst (v := -1) hx hb dX9_takeSegment_63 (by decide +kernel) ?_
        exact gm_iret hx hb hr hlocks hW hS hf dX9_takeSegment_64
      · replace hf := hf.2 c7
        refine lv_aload_n hx hb dX9_takeSegment_16 rfl (lv_at hl 0 rfl) ?_
        obtain ⟨b8, hb8, hf⟩ := hf
        refine gm_getR (C := RX9) (T := TX9) (N := 7) (j := 4) hx hb hts inT_9 hown hK hW k1 (by decide) rfl (by decide) rfl (hts _ kw_222) rfl dX9_takeSegment_17 hb8 ?_
        refine lv_iload_n hx hb dX9_takeSegment_20 rfl (lv_at hl 2 rfl) ?_
        obtain ⟨k9, hf⟩ := hf
        obtain ⟨h10, hf⟩ := hf
        refine gm_bald hx hb hK hW k9 h10 dX9_takeSegment_21 ?_
        have j32 : ∀ (y11 : Int32) (H : Heap) (locs : List Loc) (ls : Array Slot), lv_has ls 4 [(0, .ref v0), (2, .int x4)] → Wd D cy A Y M H → va_S A s.heap H locs → f_X9_takeSegment_32 Y v0 M Kn x4 (LOOP2 (L_X9_takeSegment_7 Y v0 M Kn) n7) y11 → W p l e rm_X9_takeSegment s m args below meth c H locs 0 0 (MQ below (va_Qi Kn (BG D cy A Y) A) args s 0 0 A) (F0 m 32 ls [.int y11]) := by
          intro y11 H locs ls hl hW hS hf
          unfold f_X9_takeSegment_32 at hf
          refine lv_istore_n (lv' := [(1, .int y11), (0, .ref v0), (2, .int x4)]) hx hb dX9_takeSegment_32 rfl hl (by decide) rfl (fun ls hl => ?_)
          refine lv_iload_n hx hb dX9_takeSegment_33 rfl (lv_at hl 0 rfl) ?_
          refine lv_aload_n hx hb dX9_takeSegment_34 rfl (lv_at hl 1 rfl) ?_
          refine gm_getI (C := RX9) (T := TX9) (N := 7) (j := 2) hx hb hts inT_9 hown hK hW k1 (by decide) rfl (by decide) rfl (hts _ kw_219) rfl dX9_takeSegment_35 ?_
          refine lv_icmp_ne (tgt := 57) hx hb dX9_takeSegment_38 (by decide) (fun c12 => ?_) (fun c12 => ?_)
          · replace hf := hf.1 c12
            obtain ⟨x13, ex13⟩ : ∃ y : Int32, y = x4 + 1 := ⟨_, rfl⟩
            replace hf := hf x13 ex13
            refine lv_iinc (v := x13) (lv' := [(2, .int x13), (1, .int y11), (0, .ref v0)]) hx hb dX9_takeSegment_57 hl (k := 2) rfl (by rw [ex13]; rfl) (by decide) rfl (fun ls hl => ?_)
            refine lv_goto (tgt := 7) hx hb dX9_takeSegment_60 (by decide) ?_
            exact ih7 _ _ _ _ _ (lv_sub hl [2, 1, 0] rfl) hW hS hf
          · replace hf := hf.2 c12
            refine lv_iload_n hx hb dX9_takeSegment_41 rfl (lv_at hl 2 rfl) ?_
            refine lv_aload_n hx hb dX9_takeSegment_42 rfl (lv_at hl 1 rfl) ?_
            refine gm_getI (C := RX9) (T := TX9) (N := 7) (j := 2) hx hb hts inT_9 hown hK hW k1 (by decide) rfl (by decide) rfl (hts _ kw_219) rfl dX9_takeSegment_43 ?_
            refine lv_isub hx hb dX9_takeSegment_46 ?_
            refine lv_iconst (v := 1) hx hb dX9_takeSegment_47 (by decide +kernel) ?_
            refine lv_iadd hx hb dX9_takeSegment_48 ?_
            refine lv_topi (fun x14 ex14 => ?_)
            replace hf := hf x14 ex14
            refine lv_istore_n (lv' := [(3, .int x14), (1, .int y11), (0, .ref v0), (2, .int x4)]) hx hb dX9_takeSegment_49 rfl hl (by decide) rfl (fun ls hl => ?_)
            refine lv_aload_n hx hb dX9_takeSegment_50 rfl (lv_at hl 2 rfl) ?_
            refine lv_iload_n hx hb dX9_takeSegment_51 rfl (lv_at hl 0 rfl) ?_
            refine gm_cv (va_runV (As := [.int x14]) (rest := []) ⟨hx, hb, hml, hown, hts⟩ (m_X9_markSegment l D cy tq _ Y _ _ _ _) (cwV 1 hts (good_V kw_906 kw_907 kw_1799 kw_8 kw_908) rfl rfl rfl (by decide +kernel) ⟨Nat.le_of_ble_eq_true rfl, Nat.le_of_ble_eq_true rfl⟩) (gm_preV hK hW hC hS hA k1 (by decide) (q := (RX9, TX9, 7)) rfl rfl hf) rfl rfl hl.1 rfl (lv_room (Nat.le_of_ble_eq_true rfl)) dX9_takeSegment_52 ⟨Nat.le_of_ble_eq_true rfl, Nat.le_of_ble_eq_true rfl⟩) hW hS hA (fun M15 H locs hW hS hf => ?_)
            refine lv_iload_n hx hb dX9_takeSegment_55 rfl (lv_at hl 0 rfl) ?_
            exact gm_iret hx hb hr hlocks hW hS hf dX9_takeSegment_56
        refine lv_if_ne (tgt := 31) hx hb dX9_takeSegment_22 (by decide) (fun c16 => ?_) (fun c16 => ?_)
        · replace hf := hf.1 c16
          refine lv_iconst (v := 0) hx hb dX9_takeSegment_31 (by decide +kernel) ?_
          exact j32 _ _ _ _ (lv_sub hl [0, 2] rfl) hW hS hf
        · replace hf := hf.2 c16
          refine lv_iload_n hx hb dX9_takeSegment_25 rfl (lv_at hl 1 rfl) ?_
          refine lv_iconst (v := 1) hx hb dX9_takeSegment_26 (by decide +kernel) ?_
          refine lv_iadd hx hb dX9_takeSegment_27 ?_
          refine lv_goto (tgt := 32) hx hb dX9_takeSegment_28 (by decide) ?_
          exact j32 _ _ _ _ (lv_sub hl [0, 2] rfl) hW hS hf
  exact lp7 n7 _ _ _ _ _ (lv_sub hl [2, 1, 0] rfl) hW hS hf

abbrev rm_X9_knownAt : Room := { frames := 5, cells := 0, slots := 0, locals := 149 }
def f_X9_knownAt_14 (Y : Ly) (M : Mm) (Kn : Int32 → Mm → Prop) : Prop :=
  Kn (-1) M
def f_X9_knownAt_72 (Y : Ly) (x6 : Int32) (again27 : Int32 → Int32 → Mm → Prop) (M16 : Mm) (x18 : Int32) : Prop :=
  ∀ x19 : Int32, x19 = x6 + (-1) → (again27 x18 x19 M16)
def L_X9_knownAt_27 (Y : Ly) (v0 : Nat) (v1 : Nat) (v2 : Int64) (v4 : Int32) (Kn : Int32 → Mm → Prop) (x5 : Int32) (x6 : Int32) (M7 : Mm) (again27 : Int32 → Int32 → Mm → Prop) : Prop :=
  (x6 < 0 → (Kn (-1) M7)) ∧ (¬ (x6 < 0) → (yK Y v0 = 9 ∧ (∃ b10 : Nat, mR M7 v0 0 = some b10 ∧ (yK Y b10 = 3 ∧ (∃ b12 : Nat, mR M7 b10 0 = some b12 ∧ (∃ b13 : Nat, mR M7 v1 8 = some b13 ∧ (yK Y b13 = 101 ∧ (vp_in x6 (yN Y b13) ∧ (f_X0_producerOf Y b12 (mI M7 b13 x6.toNatClampNeg) M7 (fun r17 M16 => ((¬ r17 = v2 → (f_X9_knownAt_72 Y x6 again27 M16 x5)) ∧ (r17 = v2 → ((¬ x5 = v4 → (∀ x22 : Int32, x22 = x5 + 1 → (f_X9_knownAt_72 Y x6 again27 M16 x22))) ∧ (x5 = v4 → (∃ b23 : Nat, mR M16 v1 8 = some b23 ∧ (yK Y b23 = 101 ∧ (vp_in x6 (yN Y b23) ∧ (Kn (mI M16 b23 x6.toNatClampNeg) M16))))))))))))))))))
def f_X9_knownAt (Y : Ly) (v0 : Nat) (v1 : Nat) (v2 : Int64) (v4 : Int32) (M : Mm) (Kn : Int32 → Mm → Prop) : Prop :=
  (v2 = (-1) → (f_X9_knownAt_14 Y M Kn)) ∧ (¬ (v2 = (-1)) → ((v4 < 5 → (yK Y v1 = 8 ∧ (∀ x4 : Int32, x4 = (mI M v1 7) - 1 → (∃ n, LOOP3 (L_X9_knownAt_27 Y v0 v1 v2 v4 Kn) n 0 x4 M)))) ∧ (¬ (v4 < 5) → (f_X9_knownAt_14 Y M Kn))))
set_option maxHeartbeats 4000000 in
set_option maxRecDepth 100000 in
theorem m_X9_knownAt (l : Launch) (D : va_G) (cy : Cy) (tq sz : Nat) (Y : Ly) (v0 : Nat) (v1 : Nat) (v2 : Int64) (v4 : Int32) (M : Mm) (Kn : Int32 → Mm → Prop) : Met l yX9_knownAt (Cond.code yX9_knownAt cX9_knownAt 7 (some .int) :: TT) rm_X9_knownAt (PcG D cy tq [.ref v0, .ref v1, .long v2, .int v4] sz Y M (f_X9_knownAt Y v0 v1 v2 v4 M Kn)) (va_Qi Kn (BG D cy (Am Y sz) Y) (Am Y sz)) 0 0 (Am Y sz) := by
  refine Met.ofW (cc := cX9_knownAt) (maxL := 7) (ret := (some .int)) (by decide) rfl ?_
  intro p e s m args below meth c s₁ B hml hv
  obtain ⟨hargs, hsz, hW, hK, hC, hf⟩ := hv
  subst hsz
  have hx := B.exec
  have hb := B.bytes
  have hr := B.returns
  have hts : ∀ w ∈ TT, w.before args s = true := fun w h => atoms_spec (ws := Cond.code yX9_knownAt cX9_knownAt 7 (some .int) :: TT) B.pre w (List.mem_cons_of_mem _ h)
  have hown : s.vm.findClass RX9 = some m.cls := findClass_of_methodNamed B.named
  have hlocks := B.notSynchronized
  replace hW := Wd_self (sz := s.heap.size) hW
  generalize hAe : Am Y s.heap.size = A at hW hC ⊢
  have hA : ∀ q : Nat, s.heap.size ≤ q → A q := fun q h => by rw [← hAe]; exact Or.inr h
  clear hAe
  have hS : va_S A s.heap s.heap [] := va_S.rf
  obtain ⟨ls, hE, hl⟩ := gm_entry m [.ref v0, .ref v1, .long v2, .int v4] (n := 7) hargs (Nat.le_of_ble_eq_true rfl)
  rw [hE]
  have hl : lv_has ls 7 [(0, .ref v0), (1, .ref v1), (2, .long v2), (4, .int v4)] := hl
  show W p l e rm_X9_knownAt s m args below meth c s.heap [] 0 0 (MQ below (va_Qi Kn (BG D cy A Y) A) args s 0 0 A) (F0 m 0 ls [])
  unfold f_X9_knownAt at hf
  refine lv_lload_n hx hb dX9_knownAt_0 rfl (lv_at hl 2 rfl) ?_
  refine lv_ldc2 (v := -1) hx hb hown (hts _ kw_876) dX9_knownAt_1 ?_
  refine W.lcmp hx hb dX9_knownAt_4 ?_
  have j14 : ∀ (H : Heap) (locs : List Loc) (ls : Array Slot), lv_has ls 7 [] → Wd D cy A Y M H → va_S A s.heap H locs → f_X9_knownAt_14 Y M Kn  → W p l e rm_X9_knownAt s m args below meth c H locs 0 0 (MQ below (va_Qi Kn (BG D cy A Y) A) args s 0 0 A) (F0 m 14 ls []) := by
    intro  H locs ls hl hW hS hf
    unfold f_X9_knownAt_14 at hf
    refine lv_iconst (v := -1) hx hb dX9_knownAt_14 (by decide +kernel) ?_
    exact gm_iret hx hb hr hlocks hW hS hf dX9_knownAt_15
  refine lv_if_eq (tgt := 14) hx hb dX9_knownAt_5 (by decide) (fun c1 => ?_) (fun c1 => ?_)
  · replace hf := hf.1 (lg_eq.mp c1)
    exact j14  _ _ _ (lv_sub hl [] rfl) hW hS hf
  · replace hf := hf.2 (fun z => c1 (lg_eq.mpr z))
    refine lv_iload hx hb dX9_knownAt_8 (lv_at hl 3 rfl) ?_
    refine lv_iconst (v := 5) hx hb dX9_knownAt_10 (by decide +kernel) ?_
    refine lv_icmp_lt (tgt := 16) hx hb dX9_knownAt_11 (by decide) (fun c2 => ?_) (fun c2 => ?_)
    · replace hf := hf.1 c2
      refine lv_iconst (v := 0) hx hb dX9_knownAt_16 (by decide +kernel) ?_
      refine lv_istore (lv' := [(5, .int 0), (0, .ref v0), (1, .ref v1), (2, .long v2), (4, .int v4)]) hx hb dX9_knownAt_17 hl (by decide) rfl (fun ls hl => ?_)
      refine lv_aload_n hx hb dX9_knownAt_19 rfl (lv_at hl 2 rfl) ?_
      obtain ⟨k3, hf⟩ := hf
      refine gm_getI (C := RX8) (T := TX8) (N := 9) (j := 7) hx hb hts inT_8 hown hK hW k3 (by decide) rfl (by decide) rfl (hts _ kw_192) rfl dX9_knownAt_20 ?_
      refine lv_iconst (v := 1) hx hb dX9_knownAt_23 (by decide +kernel) ?_
      refine lv_isub hx hb dX9_knownAt_24 ?_
      refine lv_topi (fun x4 ex4 => ?_)
      replace hf := hf x4 ex4
      refine lv_istore (lv' := [(6, .int x4), (5, .int 0), (0, .ref v0), (1, .ref v1), (2, .long v2), (4, .int v4)]) hx hb dX9_knownAt_25 hl (by decide) rfl (fun ls hl => ?_)
      obtain ⟨n27, hf⟩ := hf
      have lp27 : ∀ (n27 : Nat) (x5 : Int32) (x6 : Int32) (M7 : Mm) (H : Heap) (locs : List Loc) (ls : Array Slot), lv_has ls 7 [(0, .ref v0), (1, .ref v1), (2, .long v2), (4, .int v4), (5, .int x5), (6, .int x6)] → Wd D cy A Y M7 H → va_S A s.heap H locs → LOOP3 (L_X9_knownAt_27 Y v0 v1 v2 v4 Kn) n27 x5 x6 M7 → W p l e rm_X9_knownAt s m args below meth c H locs 0 0 (MQ below (va_Qi Kn (BG D cy A Y) A) args s 0 0 A) (F0 m 27 ls []) := by
        intro n27
        induction n27 with
        | zero => intro x5 x6 M7 H locs ls hl hW hS hf; exact hf.elim
        | succ n27 ih27 =>
          intro x5 x6 M7 H locs ls hl hW hS hf
          replace hf : L_X9_knownAt_27 Y v0 v1 v2 v4 Kn x5 x6 M7 (LOOP3 (L_X9_knownAt_27 Y v0 v1 v2 v4 Kn) n27) := hf
          unfold L_X9_knownAt_27 at hf
          refine lv_iload hx hb dX9_knownAt_27 (lv_at hl 5 rfl) ?_
          refine lv_if_lt (tgt := 78) hx hb dX9_knownAt_29 (by decide) (fun c8 => ?_) (fun c8 => ?_)
          · replace hf := hf.1 c8
            refine lv_iconst (v := -1) hx hb dX9_knownAt_78 (by decide +kernel) ?_
            exact gm_iret hx hb hr hlocks hW hS hf dX9_knownAt_79
          · replace hf := hf.2 c8
            refine lv_aload_n hx hb dX9_knownAt_32 rfl (lv_at hl 0 rfl) ?_
            obtain ⟨k9, hf⟩ := hf
            obtain ⟨b10, hb10, hf⟩ := hf
            refine gm_getR (C := RX9) (T := TX9) (N := 7) (j := 0) hx hb hts inT_9 hown hK hW k9 (by decide) rfl (by decide) rfl (hts _ kw_213) rfl dX9_knownAt_33 hb10 ?_
            obtain ⟨k11, hf⟩ := hf
            obtain ⟨b12, hb12, hf⟩ := hf
            refine gm_getR (C := RX3) (T := TX3) (N := 4) (j := 0) hx hb hts inT_3 hown hK hW k11 (by decide) rfl (by decide) rfl (hts _ kw_144) rfl dX9_knownAt_36 hb12 ?_
            refine lv_aload_n hx hb dX9_knownAt_39 rfl (lv_at hl 1 rfl) ?_
            obtain ⟨b13, hb13, hf⟩ := hf
            refine gm_getR (C := RX8) (T := TX8) (N := 9) (j := 8) hx hb hts inT_8 hown hK hW k3 (by decide) rfl (by decide) rfl (hts _ kw_197) rfl dX9_knownAt_40 hb13 ?_
            refine lv_iload hx hb dX9_knownAt_43 (lv_at hl 5 rfl) ?_
            obtain ⟨k14, hf⟩ := hf
            obtain ⟨h15, hf⟩ := hf
            refine gm_iald hx hb hK hW k14 h15 dX9_knownAt_45 ?_
            refine gm_cl (va_runS (As := [.ref b12, .int (mI M7 b13 x6.toNatClampNeg)]) (rest := []) ⟨hx, hb, hml, hown, hts⟩ (m_X0_producerOf l D cy tq _ Y _ _ _ _) (va_cwS 2 hts (good_S kw_871 kw_785 kw_20 kw_786) rfl rfl rfl (by decide +kernel) ⟨Nat.le_of_ble_eq_true rfl, Nat.le_of_ble_eq_true rfl⟩) (gm_preS hK hW hC hS hA hf) rfl rfl hl.1 rfl (lv_room (Nat.le_of_ble_eq_true rfl)) dX9_knownAt_46 ⟨Nat.le_of_ble_eq_true rfl, Nat.le_of_ble_eq_true rfl⟩) hW hS hA (fun r17 M16 H locs hW hS hf => ?_)
            refine lv_lload_n hx hb dX9_knownAt_49 rfl (lv_at hl 2 rfl) ?_
            refine W.lcmp hx hb dX9_knownAt_50 ?_
            have j72 : ∀ (x18 : Int32) (H : Heap) (locs : List Loc) (ls : Array Slot), lv_has ls 7 [(0, .ref v0), (1, .ref v1), (2, .long v2), (4, .int v4), (5, .int x18), (6, .int x6)] → Wd D cy A Y M16 H → va_S A s.heap H locs → f_X9_knownAt_72 Y x6 (LOOP3 (L_X9_knownAt_27 Y v0 v1 v2 v4 Kn) n27) M16 x18 → W p l e rm_X9_knownAt s m args below meth c H locs 0 0 (MQ below (va_Qi Kn (BG D cy A Y) A) args s 0 0 A) (F0 m 72 ls []) := by
              intro x18 H locs ls hl hW hS hf
              unfold f_X9_knownAt_72 at hf
              obtain ⟨x19, ex19⟩ : ∃ y : Int32, y = x6 + (-1) := ⟨_, rfl⟩
              replace hf := hf x19 ex19
              refine lv_iinc (v := x19) (lv' := [(6, .int x19), (0, .ref v0), (1, .ref v1), (2, .long v2), (4, .int v4), (5, .int x18)]) hx hb dX9_knownAt_72 hl (k := 5) rfl (by rw [ex19]; rfl) (by decide) rfl (fun ls hl => ?_)
              refine lv_goto (tgt := 27) hx hb dX9_knownAt_75 (by decide) ?_
              exact ih27 _ _ _ _ _ _ (lv_sub hl [1, 2, 3, 4, 5, 0] rfl) hW hS hf
            refine lv_if_ne (tgt := 72) hx hb dX9_knownAt_51 (by decide) (fun c20 => ?_) (fun c20 => ?_)
            · replace hf := hf.1 ((not_congr lg_eq).mp c20)
              exact j72 _ _ _ _ (lv_sub hl [0, 1, 2, 3, 4, 5] rfl) hW hS hf
            · replace hf := hf.2 (lg_eq.mp c20)
              refine lv_iload hx hb dX9_knownAt_54 (lv_at hl 4 rfl) ?_
              refine lv_iload hx hb dX9_knownAt_56 (lv_at hl 3 rfl) ?_
              refine lv_icmp_ne (tgt := 69) hx hb dX9_knownAt_58 (by decide) (fun c21 => ?_) (fun c21 => ?_)
              · replace hf := hf.1 c21
                obtain ⟨x22, ex22⟩ : ∃ y : Int32, y = x5 + 1 := ⟨_, rfl⟩
                replace hf := hf x22 ex22
                refine lv_iinc (v := x22) (lv' := [(5, .int x22), (0, .ref v0), (1, .ref v1), (2, .long v2), (4, .int v4), (6, .int x6)]) hx hb dX9_knownAt_69 hl (k := 4) rfl (by rw [ex22]; rfl) (by decide) rfl (fun ls hl => ?_)
                exact j72 _ _ _ _ (lv_sub hl [1, 2, 3, 4, 0, 5] rfl) hW hS hf
              · replace hf := hf.2 c21
                refine lv_aload_n hx hb dX9_knownAt_61 rfl (lv_at hl 1 rfl) ?_
                obtain ⟨b23, hb23, hf⟩ := hf
                refine gm_getR (C := RX8) (T := TX8) (N := 9) (j := 8) hx hb hts inT_8 hown hK hW k3 (by decide) rfl (by decide) rfl (hts _ kw_197) rfl dX9_knownAt_62 hb23 ?_
                refine lv_iload hx hb dX9_knownAt_65 (lv_at hl 5 rfl) ?_
                obtain ⟨k24, hf⟩ := hf
                obtain ⟨h25, hf⟩ := hf
                refine gm_iald hx hb hK hW k24 h25 dX9_knownAt_67 ?_
                exact gm_iret hx hb hr hlocks hW hS hf dX9_knownAt_68
      exact lp27 n27 _ _ _ _ _ _ (lv_sub hl [2, 3, 4, 5, 1, 0] rfl) hW hS hf
    · replace hf := hf.2 c2
      exact j14  _ _ _ (lv_sub hl [] rfl) hW hS hf

abbrev rm_X9_isKnown : Room := { frames := 6, cells := 0, slots := 0, locals := 175 }
def L_X9_isKnown_15 (Y : Ly) (v0 : Nat) (v1 : Nat) (v2 : Int32) (Kn : Int32 → Mm → Prop) (r6 : Int64) (x7 : Int32) (M8 : Mm) (again15 : Int32 → Mm → Prop) : Prop :=
  (5 ≤ x7 → (bz 0 ∧ Kn 0 M8)) ∧ (¬ (5 ≤ x7) → (f_X9_knownAt Y v0 v1 r6 x7 M8 (fun r11 M10 => ((¬ r11 = v2 → (∀ x13 : Int32, x13 = x7 + 1 → (again15 x13 M10))) ∧ (r11 = v2 → (bz 1 ∧ Kn 1 M10))))))
def f_X9_isKnown (Y : Ly) (v0 : Nat) (v1 : Nat) (v2 : Int32) (M : Mm) (Kn : Int32 → Mm → Prop) : Prop :=
  yK Y v0 = 9 ∧ (∃ b2 : Nat, mR M v0 0 = some b2 ∧ (yK Y b2 = 3 ∧ (∃ b4 : Nat, mR M b2 0 = some b4 ∧ (f_X0_producerOf Y b4 v2 M (fun r6 M5 => (∃ n, LOOP2 (L_X9_isKnown_15 Y v0 v1 v2 Kn r6) n 0 M5))))))
set_option maxHeartbeats 4000000 in
set_option maxRecDepth 100000 in
theorem m_X9_isKnown (l : Launch) (D : va_G) (cy : Cy) (tq sz : Nat) (Y : Ly) (v0 : Nat) (v1 : Nat) (v2 : Int32) (M : Mm) (Kn : Int32 → Mm → Prop) : Met l yX9_isKnown (Cond.code yX9_isKnown cX9_isKnown 6 (some .boolean) :: TT) rm_X9_isKnown (PcG D cy tq [.ref v0, .ref v1, .int v2] sz Y M (f_X9_isKnown Y v0 v1 v2 M Kn)) (va_Qi Kn (BG D cy (Am Y sz) Y) (Am Y sz)) 0 0 (Am Y sz) := by
  refine Met.ofW (cc := cX9_isKnown) (maxL := 6) (ret := (some .boolean)) (by decide) rfl ?_
  intro p e s m args below meth c s₁ B hml hv
  obtain ⟨hargs, hsz, hW, hK, hC, hf⟩ := hv
  subst hsz
  have hx := B.exec
  have hb := B.bytes
  have hr := B.returns
  have hts : ∀ w ∈ TT, w.before args s = true := fun w h => atoms_spec (ws := Cond.code yX9_isKnown cX9_isKnown 6 (some .boolean) :: TT) B.pre w (List.mem_cons_of_mem _ h)
  have hown : s.vm.findClass RX9 = some m.cls := findClass_of_methodNamed B.named
  have hlocks := B.notSynchronized
  replace hW := Wd_self (sz := s.heap.size) hW
  generalize hAe : Am Y s.heap.size = A at hW hC ⊢
  have hA : ∀ q : Nat, s.heap.size ≤ q → A q := fun q h => by rw [← hAe]; exact Or.inr h
  clear hAe
  have hS : va_S A s.heap s.heap [] := va_S.rf
  obtain ⟨ls, hE, hl⟩ := gm_entry m [.ref v0, .ref v1, .int v2] (n := 6) hargs (Nat.le_of_ble_eq_true rfl)
  rw [hE]
  have hl : lv_has ls 6 [(0, .ref v0), (1, .ref v1), (2, .int v2)] := hl
  show W p l e rm_X9_isKnown s m args below meth c s.heap [] 0 0 (MQ below (va_Qi Kn (BG D cy A Y) A) args s 0 0 A) (F0 m 0 ls [])
  unfold f_X9_isKnown at hf
  refine lv_aload_n hx hb dX9_isKnown_0 rfl (lv_at hl 0 rfl) ?_
  obtain ⟨k1, hf⟩ := hf
  obtain ⟨b2, hb2, hf⟩ := hf
  refine gm_getR (C := RX9) (T := TX9) (N := 7) (j := 0) hx hb hts inT_9 hown hK hW k1 (by decide) rfl (by decide) rfl (hts _ kw_213) rfl dX9_isKnown_1 hb2 ?_
  obtain ⟨k3, hf⟩ := hf
  obtain ⟨b4, hb4, hf⟩ := hf
  refine gm_getR (C := RX3) (T := TX3) (N := 4) (j := 0) hx hb hts inT_3 hown hK hW k3 (by decide) rfl (by decide) rfl (hts _ kw_144) rfl dX9_isKnown_4 hb4 ?_
  refine lv_iload_n hx hb dX9_isKnown_7 rfl (lv_at hl 2 rfl) ?_
  refine gm_cl (va_runS (As := [.ref b4, .int v2]) (rest := []) ⟨hx, hb, hml, hown, hts⟩ (m_X0_producerOf l D cy tq _ Y _ _ _ _) (va_cwS 2 hts (good_S kw_871 kw_785 kw_20 kw_786) rfl rfl rfl (by decide +kernel) ⟨Nat.le_of_ble_eq_true rfl, Nat.le_of_ble_eq_true rfl⟩) (gm_preS hK hW hC hS hA hf) rfl rfl hl.1 rfl (lv_room (Nat.le_of_ble_eq_true rfl)) dX9_isKnown_8 ⟨Nat.le_of_ble_eq_true rfl, Nat.le_of_ble_eq_true rfl⟩) hW hS hA (fun r6 M5 H locs hW hS hf => ?_)
  refine lv_lstore_n (lv' := [(3, .long r6), (0, .ref v0), (1, .ref v1), (2, .int v2)]) hx hb dX9_isKnown_11 rfl hl (by decide) rfl (fun ls hl => ?_)
  refine lv_iconst (v := 0) hx hb dX9_isKnown_12 (by decide +kernel) ?_
  refine lv_istore (lv' := [(5, .int 0), (3, .long r6), (0, .ref v0), (1, .ref v1), (2, .int v2)]) hx hb dX9_isKnown_13 hl (by decide) rfl (fun ls hl => ?_)
  obtain ⟨n15, hf⟩ := hf
  have lp15 : ∀ (n15 : Nat) (x7 : Int32) (M8 : Mm) (H : Heap) (locs : List Loc) (ls : Array Slot), lv_has ls 6 [(0, .ref v0), (1, .ref v1), (2, .int v2), (3, .long r6), (5, .int x7)] → Wd D cy A Y M8 H → va_S A s.heap H locs → LOOP2 (L_X9_isKnown_15 Y v0 v1 v2 Kn r6) n15 x7 M8 → W p l e rm_X9_isKnown s m args below meth c H locs 0 0 (MQ below (va_Qi Kn (BG D cy A Y) A) args s 0 0 A) (F0 m 15 ls []) := by
    intro n15
    induction n15 with
    | zero => intro x7 M8 H locs ls hl hW hS hf; exact hf.elim
    | succ n15 ih15 =>
      intro x7 M8 H locs ls hl hW hS hf
      replace hf : L_X9_isKnown_15 Y v0 v1 v2 Kn r6 x7 M8 (LOOP2 (L_X9_isKnown_15 Y v0 v1 v2 Kn r6) n15) := hf
      unfold L_X9_isKnown_15 at hf
      refine lv_iload hx hb dX9_isKnown_15 (lv_at hl 4 rfl) ?_
      refine lv_iconst (v := 5) hx hb dX9_isKnown_17 (by decide +kernel) ?_
      refine lv_icmp_ge (tgt := 41) hx hb dX9_isKnown_18 (by decide) (fun c9 => ?_) (fun c9 => ?_)
      · replace hf := hf.1 c9
        refine lv_iconst (v := 0) hx hb dX9_isKnown_41 (by decide +kernel) ?_
        exact gm_zret hx hb hr hlocks hW hS hf.1 hf.2 dX9_isKnown_42
      · replace hf := hf.2 c9
        refine lv_aload_n hx hb dX9_isKnown_21 rfl (lv_at hl 0 rfl) ?_
        refine lv_aload_n hx hb dX9_isKnown_22 rfl (lv_at hl 1 rfl) ?_
        refine lv_lload_n hx hb dX9_isKnown_23 rfl (lv_at hl 3 rfl) ?_
        refine lv_iload hx hb dX9_isKnown_24 (lv_at hl 4 rfl) ?_
        refine gm_ci (va_runV (As := [.ref v1, .long r6, .int x7]) (rest := []) ⟨hx, hb, hml, hown, hts⟩ (m_X9_knownAt l D cy tq _ Y _ _ _ _ _ _) (cwV 3 hts (good_V kw_872 kw_873 kw_874 kw_8 kw_875) rfl rfl rfl (by decide +kernel) ⟨Nat.le_of_ble_eq_true rfl, Nat.le_of_ble_eq_true rfl⟩) (gm_preV hK hW hC hS hA k1 (by decide) (q := (RX9, TX9, 7)) rfl rfl hf) rfl rfl hl.1 rfl (lv_room (Nat.le_of_ble_eq_true rfl)) dX9_isKnown_26 ⟨Nat.le_of_ble_eq_true rfl, Nat.le_of_ble_eq_true rfl⟩) hW hS hA (fun r11 M10 H locs hW hS hf => ?_)
        refine lv_iload_n hx hb dX9_isKnown_29 rfl (lv_at hl 2 rfl) ?_
        refine lv_icmp_ne (tgt := 35) hx hb dX9_isKnown_30 (by decide) (fun c12 => ?_) (fun c12 => ?_)
        · replace hf := hf.1 c12
          obtain ⟨x13, ex13⟩ : ∃ y : Int32, y = x7 + 1 := ⟨_, rfl⟩
          replace hf := hf x13 ex13
          refine lv_iinc (v := x13) (lv' := [(5, .int x13), (0, .ref v0), (1, .ref v1), (2, .int v2), (3, .long r6)]) hx hb dX9_isKnown_35 hl (k := 4) rfl (by rw [ex13]; rfl) (by decide) rfl (fun ls hl => ?_)
          refine lv_goto (tgt := 15) hx hb dX9_isKnown_38 (by decide) ?_
          exact ih15 _ _ _ _ _ (lv_sub hl [1, 2, 3, 4, 0] rfl) hW hS hf
        · replace hf := hf.2 c12
          refine lv_iconst (v := 1) hx hb dX9_isKnown_33 (by decide +kernel) ?_
          exact gm_zret hx hb hr hlocks hW hS hf.1 hf.2 dX9_isKnown_34
  exact lp15 n15 _ _ _ _ _ (lv_sub hl [2, 3, 4, 1, 0] rfl) hW hS hf

abbrev rm_X9_countRecords : Room := { frames := 5, cells := 0, slots := 0, locals := 149 }
def L_X9_countRecords_5 (Y : Ly) (v0 : Nat) (v1 : Nat) (Kn : Int64 → Mm → Prop) (x1 : Int64) (x2 : Int32) (M3 : Mm) (again5 : Int64 → Int32 → Mm → Prop) : Prop :=
  yK Y v1 = 8 ∧ (((mI M3 v1 7) ≤ x2 → (Kn x1 M3)) ∧ (¬ ((mI M3 v1 7) ≤ x2) → (yK Y v0 = 9 ∧ (∃ b7 : Nat, mR M3 v0 0 = some b7 ∧ (yK Y b7 = 3 ∧ (∃ b9 : Nat, mR M3 b7 0 = some b9 ∧ (∃ b10 : Nat, mR M3 v1 8 = some b10 ∧ (yK Y b10 = 101 ∧ (vp_in x2 (yN Y b10) ∧ (f_X0_countOf Y b9 (mI M3 b10 x2.toNatClampNeg) M3 (fun r14 M13 => (∀ x15 : Int64, x15 = x1 + r14.toInt64 → (∀ x16 : Int32, x16 = x2 + 1 → (again5 x15 x16 M13))))))))))))))
def f_X9_countRecords (Y : Ly) (v0 : Nat) (v1 : Nat) (M : Mm) (Kn : Int64 → Mm → Prop) : Prop :=
  ∃ n, LOOP3 (L_X9_countRecords_5 Y v0 v1 Kn) n 0 0 M
set_option maxHeartbeats 4000000 in
set_option maxRecDepth 100000 in
theorem m_X9_countRecords (l : Launch) (D : va_G) (cy : Cy) (tq sz : Nat) (Y : Ly) (v0 : Nat) (v1 : Nat) (M : Mm) (Kn : Int64 → Mm → Prop) : Met l yX9_countRecords (Cond.code yX9_countRecords cX9_countRecords 5 (some .long) :: TT) rm_X9_countRecords (PcG D cy tq [.ref v0, .ref v1] sz Y M (f_X9_countRecords Y v0 v1 M Kn)) (va_Ql Kn (BG D cy (Am Y sz) Y) (Am Y sz)) 0 0 (Am Y sz) := by
  refine Met.ofW (cc := cX9_countRecords) (maxL := 5) (ret := (some .long)) (by decide) rfl ?_
  intro p e s m args below meth c s₁ B hml hv
  obtain ⟨hargs, hsz, hW, hK, hC, hf⟩ := hv
  subst hsz
  have hx := B.exec
  have hb := B.bytes
  have hr := B.returns
  have hts : ∀ w ∈ TT, w.before args s = true := fun w h => atoms_spec (ws := Cond.code yX9_countRecords cX9_countRecords 5 (some .long) :: TT) B.pre w (List.mem_cons_of_mem _ h)
  have hown : s.vm.findClass RX9 = some m.cls := findClass_of_methodNamed B.named
  have hlocks := B.notSynchronized
  replace hW := Wd_self (sz := s.heap.size) hW
  generalize hAe : Am Y s.heap.size = A at hW hC ⊢
  have hA : ∀ q : Nat, s.heap.size ≤ q → A q := fun q h => by rw [← hAe]; exact Or.inr h
  clear hAe
  have hS : va_S A s.heap s.heap [] := va_S.rf
  obtain ⟨ls, hE, hl⟩ := gm_entry m [.ref v0, .ref v1] (n := 5) hargs (Nat.le_of_ble_eq_true rfl)
  rw [hE]
  have hl : lv_has ls 5 [(0, .ref v0), (1, .ref v1)] := hl
  show W p l e rm_X9_countRecords s m args below meth c s.heap [] 0 0 (MQ below (va_Ql Kn (BG D cy A Y) A) args s 0 0 A) (F0 m 0 ls [])
  unfold f_X9_countRecords at hf
  refine lv_lconst (v := 0) hx hb dX9_countRecords_0 (by decide) ?_
  refine lv_lstore_n (lv' := [(2, .long 0), (0, .ref v0), (1, .ref v1)]) hx hb dX9_countRecords_1 rfl hl (by decide) rfl (fun ls hl => ?_)
  refine lv_iconst (v := 0) hx hb dX9_countRecords_2 (by decide +kernel) ?_
  refine lv_istore (lv' := [(4, .int 0), (2, .long 0), (0, .ref v0), (1, .ref v1)]) hx hb dX9_countRecords_3 hl (by decide) rfl (fun ls hl => ?_)
  obtain ⟨n5, hf⟩ := hf
  have lp5 : ∀ (n5 : Nat) (x1 : Int64) (x2 : Int32) (M3 : Mm) (H : Heap) (locs : List Loc) (ls : Array Slot), lv_has ls 5 [(0, .ref v0), (1, .ref v1), (2, .long x1), (4, .int x2)] → Wd D cy A Y M3 H → va_S A s.heap H locs → LOOP3 (L_X9_countRecords_5 Y v0 v1 Kn) n5 x1 x2 M3 → W p l e rm_X9_countRecords s m args below meth c H locs 0 0 (MQ below (va_Ql Kn (BG D cy A Y) A) args s 0 0 A) (F0 m 5 ls []) := by
    intro n5
    induction n5 with
    | zero => intro x1 x2 M3 H locs ls hl hW hS hf; exact hf.elim
    | succ n5 ih5 =>
      intro x1 x2 M3 H locs ls hl hW hS hf
      replace hf : L_X9_countRecords_5 Y v0 v1 Kn x1 x2 M3 (LOOP3 (L_X9_countRecords_5 Y v0 v1 Kn) n5) := hf
      unfold L_X9_countRecords_5 at hf
      refine lv_iload hx hb dX9_countRecords_5 (lv_at hl 3 rfl) ?_
      refine lv_aload_n hx hb dX9_countRecords_7 rfl (lv_at hl 1 rfl) ?_
      obtain ⟨k4, hf⟩ := hf
      refine gm_getI (C := RX8) (T := TX8) (N := 9) (j := 7) hx hb hts inT_8 hown hK hW k4 (by decide) rfl (by decide) rfl (hts _ kw_192) rfl dX9_countRecords_8 ?_
      refine lv_icmp_ge (tgt := 41) hx hb dX9_countRecords_11 (by decide) (fun c5 => ?_) (fun c5 => ?_)
      · replace hf := hf.1 c5
        refine lv_lload_n hx hb dX9_countRecords_41 rfl (lv_at hl 2 rfl) ?_
        exact gm_lret hx hb hr hlocks hW hS hf dX9_countRecords_42
      · replace hf := hf.2 c5
        refine lv_lload_n hx hb dX9_countRecords_14 rfl (lv_at hl 2 rfl) ?_
        refine lv_aload_n hx hb dX9_countRecords_15 rfl (lv_at hl 0 rfl) ?_
        obtain ⟨k6, hf⟩ := hf
        obtain ⟨b7, hb7, hf⟩ := hf
        refine gm_getR (C := RX9) (T := TX9) (N := 7) (j := 0) hx hb hts inT_9 hown hK hW k6 (by decide) rfl (by decide) rfl (hts _ kw_213) rfl dX9_countRecords_16 hb7 ?_
        obtain ⟨k8, hf⟩ := hf
        obtain ⟨b9, hb9, hf⟩ := hf
        refine gm_getR (C := RX3) (T := TX3) (N := 4) (j := 0) hx hb hts inT_3 hown hK hW k8 (by decide) rfl (by decide) rfl (hts _ kw_144) rfl dX9_countRecords_19 hb9 ?_
        refine lv_aload_n hx hb dX9_countRecords_22 rfl (lv_at hl 1 rfl) ?_
        obtain ⟨b10, hb10, hf⟩ := hf
        refine gm_getR (C := RX8) (T := TX8) (N := 9) (j := 8) hx hb hts inT_8 hown hK hW k4 (by decide) rfl (by decide) rfl (hts _ kw_197) rfl dX9_countRecords_23 hb10 ?_
        refine lv_iload hx hb dX9_countRecords_26 (lv_at hl 3 rfl) ?_
        obtain ⟨k11, hf⟩ := hf
        obtain ⟨h12, hf⟩ := hf
        refine gm_iald hx hb hK hW k11 h12 dX9_countRecords_28 ?_
        refine gm_ci (va_runS (As := [.ref b9, .int (mI M3 b10 x2.toNatClampNeg)]) (rest := [.long x1]) ⟨hx, hb, hml, hown, hts⟩ (m_X0_countOf l D cy tq _ Y _ _ _ _) (va_cwS 2 hts (good_S kw_915 kw_782 kw_20 kw_783) rfl rfl rfl (by decide +kernel) ⟨Nat.le_of_ble_eq_true rfl, Nat.le_of_ble_eq_true rfl⟩) (gm_preS hK hW hC hS hA hf) rfl rfl hl.1 rfl (lv_room (Nat.le_of_ble_eq_true rfl)) dX9_countRecords_29 ⟨Nat.le_of_ble_eq_true rfl, Nat.le_of_ble_eq_true rfl⟩) hW hS hA (fun r14 M13 H locs hW hS hf => ?_)
        refine lv_i2l hx hb dX9_countRecords_32 rfl ?_
        refine lv_ladd hx hb dX9_countRecords_33 ?_
        refine lv_topl (fun x15 ex15 => ?_)
        replace hf := hf x15 ex15
        refine lv_lstore_n (lv' := [(2, .long x15), (0, .ref v0), (1, .ref v1), (4, .int x2)]) hx hb dX9_countRecords_34 rfl hl (by decide) rfl (fun ls hl => ?_)
        obtain ⟨x16, ex16⟩ : ∃ y : Int32, y = x2 + 1 := ⟨_, rfl⟩
        replace hf := hf x16 ex16
        refine lv_iinc (v := x16) (lv' := [(4, .int x16), (2, .long x15), (0, .ref v0), (1, .ref v1)]) hx hb dX9_countRecords_35 hl (k := 3) rfl (by rw [ex16]; rfl) (by decide) rfl (fun ls hl => ?_)
        refine lv_goto (tgt := 5) hx hb dX9_countRecords_38 (by decide) ?_
        exact ih5 _ _ _ _ _ _ (lv_sub hl [2, 3, 1, 0] rfl) hW hS hf
  exact lp5 n5 _ _ _ _ _ _ (lv_sub hl [2, 3, 1, 0] rfl) hW hS hf

abbrev rm_X9_fillHeadRow : Room := { frames := 3, cells := 0, slots := 0, locals := 105 }
def L_X9_fillHeadRow_54 (Y : Ly) (v0 : Nat) (v1 : Nat) (Kn : Mm → Prop) (x11 : Int32) (M12 : Mm) (again54 : Int32 → Mm → Prop) : Prop :=
  ((mI M12 v1 3) ≤ x11 → (Kn M12)) ∧ (¬ ((mI M12 v1 3) ≤ x11) → (∃ b14 : Nat, mR M12 v0 5 = some b14 ∧ (∃ b15 : Nat, mR M12 v1 4 = some b15 ∧ (yK Y b15 = 101 ∧ (vp_in x11 (yN Y b15) ∧ (f_X1_put Y b14 (20 + (8 * x11)) 4 ((mI M12 b15 x11.toNatClampNeg).toInt64) M12 (fun M18 => (∃ b19 : Nat, mR M18 v0 5 = some b19 ∧ (∃ b20 : Nat, mR M18 v1 5 = some b20 ∧ (yK Y b20 = 101 ∧ (vp_in x11 (yN Y b20) ∧ (f_X1_put Y b19 (24 + (8 * x11)) 4 ((mI M18 b20 x11.toNatClampNeg).toInt64) M18 (fun M23 => (∀ x24 : Int32, x24 = x11 + 1 → (again54 x24 M23)))))))))))))))
def f_X9_fillHeadRow (Y : Ly) (v0 : Nat) (v1 : Nat) (M : Mm) (Kn : Mm → Prop) : Prop :=
  yK Y v0 = 9 ∧ (∃ b2 : Nat, mR M v0 5 = some b2 ∧ (f_J7_fill_031fb Y b2 0 M (fun M3 => (∃ b4 : Nat, mR M3 v0 5 = some b4 ∧ (yK Y v1 = 8 ∧ (f_X1_put Y b4 0 8 (mJ M3 v1 1) M3 (fun M6 => (∃ b7 : Nat, mR M6 v0 5 = some b7 ∧ (f_X1_put Y b7 8 8 (mJ M6 v1 2) M6 (fun M8 => (∃ b9 : Nat, mR M8 v0 5 = some b9 ∧ (f_X1_put Y b9 16 4 ((mI M8 v1 3).toInt64) M8 (fun M10 => (∃ n, LOOP2 (L_X9_fillHeadRow_54 Y v0 v1 Kn) n 0 M10))))))))))))))
set_option maxHeartbeats 4000000 in
set_option maxRecDepth 100000 in
theorem m_X9_fillHeadRow (l : Launch) (D : va_G) (cy : Cy) (tq sz : Nat) (Y : Ly) (v0 : Nat) (v1 : Nat) (M : Mm) (Kn : Mm → Prop) : Met l yX9_fillHeadRow (Cond.code yX9_fillHeadRow cX9_fillHeadRow 3 none :: TT) rm_X9_fillHeadRow (PcG D cy tq [.ref v0, .ref v1] sz Y M (f_X9_fillHeadRow Y v0 v1 M Kn)) (va_Qv Kn (BG D cy (Am Y sz) Y) (Am Y sz)) 0 0 (Am Y sz) := by
  refine Met.ofW (cc := cX9_fillHeadRow) (maxL := 3) (ret := none) (by decide) rfl ?_
  intro p e s m args below meth c s₁ B hml hv
  obtain ⟨hargs, hsz, hW, hK, hC, hf⟩ := hv
  subst hsz
  have hx := B.exec
  have hb := B.bytes
  have hr := B.returns
  have hts : ∀ w ∈ TT, w.before args s = true := fun w h => atoms_spec (ws := Cond.code yX9_fillHeadRow cX9_fillHeadRow 3 none :: TT) B.pre w (List.mem_cons_of_mem _ h)
  have hown : s.vm.findClass RX9 = some m.cls := findClass_of_methodNamed B.named
  have hlocks := B.notSynchronized
  replace hW := Wd_self (sz := s.heap.size) hW
  generalize hAe : Am Y s.heap.size = A at hW hC ⊢
  have hA : ∀ q : Nat, s.heap.size ≤ q → A q := fun q h => by rw [← hAe]; exact Or.inr h
  clear hAe
  have hS : va_S A s.heap s.heap [] := va_S.rf
  obtain ⟨ls, hE, hl⟩ := gm_entry m [.ref v0, .ref v1] (n := 3) hargs (Nat.le_of_ble_eq_true rfl)
  rw [hE]
  have hl : lv_has ls 3 [(0, .ref v0), (1, .ref v1)] := hl
  show W p l e rm_X9_fillHeadRow s m args below meth c s.heap [] 0 0 (MQ below (va_Qv Kn (BG D cy A Y) A) args s 0 0 A) (F0 m 0 ls [])
  unfold f_X9_fillHeadRow at hf
  refine lv_aload_n hx hb dX9_fillHeadRow_0 rfl (lv_at hl 0 rfl) ?_
  obtain ⟨k1, hf⟩ := hf
  obtain ⟨b2, hb2, hf⟩ := hf
  refine gm_getR (C := RX9) (T := TX9) (N := 7) (j := 5) hx hb hts inT_9 hown hK hW k1 (by decide) rfl (by decide) rfl (hts _ kw_223) rfl dX9_fillHeadRow_1 hb2 ?_
  refine lv_iconst (v := 0) hx hb dX9_fillHeadRow_4 (by decide +kernel) ?_
  refine gm_cv (va_runS (As := [.ref b2, .int 0]) (rest := []) ⟨hx, hb, hml, hown, hts⟩ (m_J7_fill_031fb l D cy tq _ Y _ _ _ _) (va_cwS 2 hts (good_S kw_903 kw_904 kw_21 kw_905) rfl rfl rfl (by decide +kernel) ⟨Nat.le_of_ble_eq_true rfl, Nat.le_of_ble_eq_true rfl⟩) (gm_preS hK hW hC hS hA hf) rfl rfl hl.1 rfl (lv_room (Nat.le_of_ble_eq_true rfl)) dX9_fillHeadRow_5 ⟨Nat.le_of_ble_eq_true rfl, Nat.le_of_ble_eq_true rfl⟩) hW hS hA (fun M3 H locs hW hS hf => ?_)
  refine lv_aload_n hx hb dX9_fillHeadRow_8 rfl (lv_at hl 0 rfl) ?_
  obtain ⟨b4, hb4, hf⟩ := hf
  refine gm_getR (C := RX9) (T := TX9) (N := 7) (j := 5) hx hb hts inT_9 hown hK hW k1 (by decide) rfl (by decide) rfl (hts _ kw_223) rfl dX9_fillHeadRow_9 hb4 ?_
  refine lv_iconst (v := 0) hx hb dX9_fillHeadRow_12 (by decide +kernel) ?_
  refine lv_bipush (v := 8) hx hb dX9_fillHeadRow_13 (by decide +kernel) ?_
  refine lv_aload_n hx hb dX9_fillHeadRow_15 rfl (lv_at hl 1 rfl) ?_
  obtain ⟨k5, hf⟩ := hf
  refine gm_getJ (C := RX8) (T := TX8) (N := 9) (j := 1) hx hb hts inT_8 hown hK hW k5 (by decide) rfl (by decide) rfl (hts _ kw_174) rfl dX9_fillHeadRow_16 ?_
  refine gm_cv (va_runS (As := [.ref b4, .int 0, .int 8, .long (mJ M3 v1 1)]) (rest := []) ⟨hx, hb, hml, hown, hts⟩ (m_X1_put l D cy tq _ Y _ _ _ _ _ _) (va_cwS 4 hts (good_S kw_914 kw_450 kw_17 kw_451) rfl rfl rfl (by decide +kernel) ⟨Nat.le_of_ble_eq_true rfl, Nat.le_of_ble_eq_true rfl⟩) (gm_preS hK hW hC hS hA hf) rfl rfl hl.1 rfl (lv_room (Nat.le_of_ble_eq_true rfl)) dX9_fillHeadRow_19 ⟨Nat.le_of_ble_eq_true rfl, Nat.le_of_ble_eq_true rfl⟩) hW hS hA (fun M6 H locs hW hS hf => ?_)
  refine lv_aload_n hx hb dX9_fillHeadRow_22 rfl (lv_at hl 0 rfl) ?_
  obtain ⟨b7, hb7, hf⟩ := hf
  refine gm_getR (C := RX9) (T := TX9) (N := 7) (j := 5) hx hb hts inT_9 hown hK hW k1 (by decide) rfl (by decide) rfl (hts _ kw_223) rfl dX9_fillHeadRow_23 hb7 ?_
  refine lv_bipush (v := 8) hx hb dX9_fillHeadRow_26 (by decide +kernel) ?_
  refine lv_bipush (v := 8) hx hb dX9_fillHeadRow_28 (by decide +kernel) ?_
  refine lv_aload_n hx hb dX9_fillHeadRow_30 rfl (lv_at hl 1 rfl) ?_
  refine gm_getJ (C := RX8) (T := TX8) (N := 9) (j := 2) hx hb hts inT_8 hown hK hW k5 (by decide) rfl (by decide) rfl (hts _ kw_176) rfl dX9_fillHeadRow_31 ?_
  refine gm_cv (va_runS (As := [.ref b7, .int 8, .int 8, .long (mJ M6 v1 2)]) (rest := []) ⟨hx, hb, hml, hown, hts⟩ (m_X1_put l D cy tq _ Y _ _ _ _ _ _) (va_cwS 4 hts (good_S kw_914 kw_450 kw_17 kw_451) rfl rfl rfl (by decide +kernel) ⟨Nat.le_of_ble_eq_true rfl, Nat.le_of_ble_eq_true rfl⟩) (gm_preS hK hW hC hS hA hf) rfl rfl hl.1 rfl (lv_room (Nat.le_of_ble_eq_true rfl)) dX9_fillHeadRow_34 ⟨Nat.le_of_ble_eq_true rfl, Nat.le_of_ble_eq_true rfl⟩) hW hS hA (fun M8 H locs hW hS hf => ?_)
  refine lv_aload_n hx hb dX9_fillHeadRow_37 rfl (lv_at hl 0 rfl) ?_
  obtain ⟨b9, hb9, hf⟩ := hf
  refine gm_getR (C := RX9) (T := TX9) (N := 7) (j := 5) hx hb hts inT_9 hown hK hW k1 (by decide) rfl (by decide) rfl (hts _ kw_223) rfl dX9_fillHeadRow_38 hb9 ?_
  refine lv_bipush (v := 16) hx hb dX9_fillHeadRow_41 (by decide +kernel) ?_
  refine lv_iconst (v := 4) hx hb dX9_fillHeadRow_43 (by decide +kernel) ?_
  refine lv_aload_n hx hb dX9_fillHeadRow_44 rfl (lv_at hl 1 rfl) ?_
  refine gm_getI (C := RX8) (T := TX8) (N := 9) (j := 3) hx hb hts inT_8 hown hK hW k5 (by decide) rfl (by decide) rfl (hts _ kw_180) rfl dX9_fillHeadRow_45 ?_
  refine lv_i2l hx hb dX9_fillHeadRow_48 rfl ?_
  refine gm_cv (va_runS (As := [.ref b9, .int 16, .int 4, .long ((mI M8 v1 3).toInt64)]) (rest := []) ⟨hx, hb, hml, hown, hts⟩ (m_X1_put l D cy tq _ Y _ _ _ _ _ _) (va_cwS 4 hts (good_S kw_914 kw_450 kw_17 kw_451) rfl rfl rfl (by decide +kernel) ⟨Nat.le_of_ble_eq_true rfl, Nat.le_of_ble_eq_true rfl⟩) (gm_preS hK hW hC hS hA hf) rfl rfl hl.1 rfl (lv_room (Nat.le_of_ble_eq_true rfl)) dX9_fillHeadRow_49 ⟨Nat.le_of_ble_eq_true rfl, Nat.le_of_ble_eq_true rfl⟩) hW hS hA (fun M10 H locs hW hS hf => ?_)
  refine lv_iconst (v := 0) hx hb dX9_fillHeadRow_52 (by decide +kernel) ?_
  refine lv_istore_n (lv' := [(2, .int 0), (0, .ref v0), (1, .ref v1)]) hx hb dX9_fillHeadRow_53 rfl hl (by decide) rfl (fun ls hl => ?_)
  obtain ⟨n54, hf⟩ := hf
  have lp54 : ∀ (n54 : Nat) (x11 : Int32) (M12 : Mm) (H : Heap) (locs : List Loc) (ls : Array Slot), lv_has ls 3 [(0, .ref v0), (1, .ref v1), (2, .int x11)] → Wd D cy A Y M12 H → va_S A s.heap H locs → LOOP2 (L_X9_fillHeadRow_54 Y v0 v1 Kn) n54 x11 M12 → W p l e rm_X9_fillHeadRow s m args below meth c H locs 0 0 (MQ below (va_Qv Kn (BG D cy A Y) A) args s 0 0 A) (F0 m 54 ls []) := by
    intro n54
    induction n54 with
    | zero => intro x11 M12 H locs ls hl hW hS hf; exact hf.elim
    | succ n54 ih54 =>
      intro x11 M12 H locs ls hl hW hS hf
      replace hf : L_X9_fillHeadRow_54 Y v0 v1 Kn x11 M12 (LOOP2 (L_X9_fillHeadRow_54 Y v0 v1 Kn) n54) := hf
      unfold L_X9_fillHeadRow_54 at hf
      refine lv_iload_n hx hb dX9_fillHeadRow_54 rfl (lv_at hl 2 rfl) ?_
      refine lv_aload_n hx hb dX9_fillHeadRow_55 rfl (lv_at hl 1 rfl) ?_
      refine gm_getI (C := RX8) (T := TX8) (N := 9) (j := 3) hx hb hts inT_8 hown hK hW k5 (by decide) rfl (by decide) rfl (hts _ kw_180) rfl dX9_fillHeadRow_56 ?_
      refine lv_icmp_ge (tgt := 112) hx hb dX9_fillHeadRow_59 (by decide) (fun c13 => ?_) (fun c13 => ?_)
      · replace hf := hf.1 c13
        exact gm_vret hx hb hr hlocks hW hS hf dX9_fillHeadRow_112
      · replace hf := hf.2 c13
        refine lv_aload_n hx hb dX9_fillHeadRow_62 rfl (lv_at hl 0 rfl) ?_
        obtain ⟨b14, hb14, hf⟩ := hf
        refine gm_getR (C := RX9) (T := TX9) (N := 7) (j := 5) hx hb hts inT_9 hown hK hW k1 (by decide) rfl (by decide) rfl (hts _ kw_223) rfl dX9_fillHeadRow_63 hb14 ?_
        refine lv_bipush (v := 20) hx hb dX9_fillHeadRow_66 (by decide +kernel) ?_
        refine lv_bipush (v := 8) hx hb dX9_fillHeadRow_68 (by decide +kernel) ?_
        refine lv_iload_n hx hb dX9_fillHeadRow_70 rfl (lv_at hl 2 rfl) ?_
        refine lv_imul hx hb dX9_fillHeadRow_71 ?_
        refine lv_iadd hx hb dX9_fillHeadRow_72 ?_
        refine lv_iconst (v := 4) hx hb dX9_fillHeadRow_73 (by decide +kernel) ?_
        refine lv_aload_n hx hb dX9_fillHeadRow_74 rfl (lv_at hl 1 rfl) ?_
        obtain ⟨b15, hb15, hf⟩ := hf
        refine gm_getR (C := RX8) (T := TX8) (N := 9) (j := 4) hx hb hts inT_8 hown hK hW k5 (by decide) rfl (by decide) rfl (hts _ kw_184) rfl dX9_fillHeadRow_75 hb15 ?_
        refine lv_iload_n hx hb dX9_fillHeadRow_78 rfl (lv_at hl 2 rfl) ?_
        obtain ⟨k16, hf⟩ := hf
        obtain ⟨h17, hf⟩ := hf
        refine gm_iald hx hb hK hW k16 h17 dX9_fillHeadRow_79 ?_
        refine lv_i2l hx hb dX9_fillHeadRow_80 rfl ?_
        refine gm_cv (va_runS (As := [.ref b14, .int (20 + (8 * x11)), .int 4, .long ((mI M12 b15 x11.toNatClampNeg).toInt64)]) (rest := []) ⟨hx, hb, hml, hown, hts⟩ (m_X1_put l D cy tq _ Y _ _ _ _ _ _) (va_cwS 4 hts (good_S kw_914 kw_450 kw_17 kw_451) rfl rfl rfl (by decide +kernel) ⟨Nat.le_of_ble_eq_true rfl, Nat.le_of_ble_eq_true rfl⟩) (gm_preS hK hW hC hS hA hf) rfl rfl hl.1 rfl (lv_room (Nat.le_of_ble_eq_true rfl)) dX9_fillHeadRow_81 ⟨Nat.le_of_ble_eq_true rfl, Nat.le_of_ble_eq_true rfl⟩) hW hS hA (fun M18 H locs hW hS hf => ?_)
        refine lv_aload_n hx hb dX9_fillHeadRow_84 rfl (lv_at hl 0 rfl) ?_
        obtain ⟨b19, hb19, hf⟩ := hf
        refine gm_getR (C := RX9) (T := TX9) (N := 7) (j := 5) hx hb hts inT_9 hown hK hW k1 (by decide) rfl (by decide) rfl (hts _ kw_223) rfl dX9_fillHeadRow_85 hb19 ?_
        refine lv_bipush (v := 24) hx hb dX9_fillHeadRow_88 (by decide +kernel) ?_
        refine lv_bipush (v := 8) hx hb dX9_fillHeadRow_90 (by decide +kernel) ?_
        refine lv_iload_n hx hb dX9_fillHeadRow_92 rfl (lv_at hl 2 rfl) ?_
        refine lv_imul hx hb dX9_fillHeadRow_93 ?_
        refine lv_iadd hx hb dX9_fillHeadRow_94 ?_
        refine lv_iconst (v := 4) hx hb dX9_fillHeadRow_95 (by decide +kernel) ?_
        refine lv_aload_n hx hb dX9_fillHeadRow_96 rfl (lv_at hl 1 rfl) ?_
        obtain ⟨b20, hb20, hf⟩ := hf
        refine gm_getR (C := RX8) (T := TX8) (N := 9) (j := 5) hx hb hts inT_8 hown hK hW k5 (by decide) rfl (by decide) rfl (hts _ kw_186) rfl dX9_fillHeadRow_97 hb20 ?_
        refine lv_iload_n hx hb dX9_fillHeadRow_100 rfl (lv_at hl 2 rfl) ?_
        obtain ⟨k21, hf⟩ := hf
        obtain ⟨h22, hf⟩ := hf
        refine gm_iald hx hb hK hW k21 h22 dX9_fillHeadRow_101 ?_
        refine lv_i2l hx hb dX9_fillHeadRow_102 rfl ?_
        refine gm_cv (va_runS (As := [.ref b19, .int (24 + (8 * x11)), .int 4, .long ((mI M18 b20 x11.toNatClampNeg).toInt64)]) (rest := []) ⟨hx, hb, hml, hown, hts⟩ (m_X1_put l D cy tq _ Y _ _ _ _ _ _) (va_cwS 4 hts (good_S kw_914 kw_450 kw_17 kw_451) rfl rfl rfl (by decide +kernel) ⟨Nat.le_of_ble_eq_true rfl, Nat.le_of_ble_eq_true rfl⟩) (gm_preS hK hW hC hS hA hf) rfl rfl hl.1 rfl (lv_room (Nat.le_of_ble_eq_true rfl)) dX9_fillHeadRow_103 ⟨Nat.le_of_ble_eq_true rfl, Nat.le_of_ble_eq_true rfl⟩) hW hS hA (fun M23 H locs hW hS hf => ?_)
        obtain ⟨x24, ex24⟩ : ∃ y : Int32, y = x11 + 1 := ⟨_, rfl⟩
        replace hf := hf x24 ex24
        refine lv_iinc (v := x24) (lv' := [(2, .int x24), (0, .ref v0), (1, .ref v1)]) hx hb dX9_fillHeadRow_106 hl (k := 2) rfl (by rw [ex24]; rfl) (by decide) rfl (fun ls hl => ?_)
        refine lv_goto (tgt := 54) hx hb dX9_fillHeadRow_109 (by decide) ?_
        exact ih54 _ _ _ _ _ (lv_sub hl [1, 2, 0] rfl) hW hS hf
  exact lp54 n54 _ _ _ _ _ (lv_sub hl [1, 2, 0] rfl) hW hS hf

abbrev rm_X9_writeHead : Room := { frames := 4, cells := 0, slots := 0, locals := 127 }
def f_X9_writeHead (Y : Ly) (v0 : Nat) (v1 : Nat) (M : Mm) (Kn : Int32 → Mm → Prop) : Prop :=
  yK Y v0 = 9 ∧ (f_X9_fillHeadRow Y v0 v1 M (fun M1 => (∃ b3 : Nat, mR M1 v0 0 = some b3 ∧ (yK Y v1 = 8 ∧ (∃ b5 : Nat, mR M1 v0 5 = some b5 ∧ (∃ b6 : Nat, mR M1 v0 5 = some b6 ∧ (yK Y b6 = 100 ∧ (yK Y b3 = 3 ∧ (f_X3_write Y b3 ((mI M1 v1 0) * 1024) b5 0 (nI (yN Y b6)) M1 (fun r9 M8 => (bz r9 ∧ Kn r9 M8)))))))))))
set_option maxHeartbeats 4000000 in
set_option maxRecDepth 100000 in
theorem m_X9_writeHead (l : Launch) (D : va_G) (cy : Cy) (tq sz : Nat) (Y : Ly) (v0 : Nat) (v1 : Nat) (M : Mm) (Kn : Int32 → Mm → Prop) : Met l yX9_writeHead (Cond.code yX9_writeHead cX9_writeHead 2 (some .boolean) :: TT) rm_X9_writeHead (PcG D cy tq [.ref v0, .ref v1] sz Y M (f_X9_writeHead Y v0 v1 M Kn)) (va_Qi Kn (BG D cy (Am Y sz) Y) (Am Y sz)) 0 0 (Am Y sz) := by
  refine Met.ofW (cc := cX9_writeHead) (maxL := 2) (ret := (some .boolean)) (by decide) rfl ?_
  intro p e s m args below meth c s₁ B hml hv
  obtain ⟨hargs, hsz, hW, hK, hC, hf⟩ := hv
  subst hsz
  have hx := B.exec
  have hb := B.bytes
  have hr := B.returns
  have hts : ∀ w ∈ TT, w.before args s = true := fun w h => atoms_spec (ws := Cond.code yX9_writeHead cX9_writeHead 2 (some .boolean) :: TT) B.pre w (List.mem_cons_of_mem _ h)
  have hown : s.vm.findClass RX9 = some m.cls := findClass_of_methodNamed B.named
  have hlocks := B.notSynchronized
  replace hW := Wd_self (sz := s.heap.size) hW
  generalize hAe : Am Y s.heap.size = A at hW hC ⊢
  have hA : ∀ q : Nat, s.heap.size ≤ q → A q := fun q h => by rw [← hAe]; exact Or.inr h
  clear hAe
  have hS : va_S A s.heap s.heap [] := va_S.rf
  obtain ⟨ls, hE, hl⟩ := gm_entry m [.ref v0, .ref v1] (n := 2) hargs (Nat.le_of_ble_eq_true rfl)
  rw [hE]
  have hl : lv_has ls 2 [(0, .ref v0), (1, .ref v1)] := hl
  show W p l e rm_X9_writeHead s m args below meth c s.heap [] 0 0 (MQ below (va_Qi Kn (BG D cy A Y) A) args s 0 0 A) (F0 m 0 ls [])
  unfold f_X9_writeHead at hf
  refine lv_aload_n hx hb dX9_writeHead_0 rfl (lv_at hl 0 rfl) ?_
  refine lv_aload_n hx hb dX9_writeHead_1 rfl (lv_at hl 1 rfl) ?_
  obtain ⟨k2, hf⟩ := hf
  refine gm_cv (va_runV (As := [.ref v1]) (rest := []) ⟨hx, hb, hml, hown, hts⟩ (m_X9_fillHeadRow l D cy tq _ Y _ _ _ _) (cwV 1 hts (good_V kw_921 kw_922 kw_1800 kw_8 kw_923) rfl rfl rfl (by decide +kernel) ⟨Nat.le_of_ble_eq_true rfl, Nat.le_of_ble_eq_true rfl⟩) (gm_preV hK hW hC hS hA k2 (by decide) (q := (RX9, TX9, 7)) rfl rfl hf) rfl rfl hl.1 rfl (lv_room (Nat.le_of_ble_eq_true rfl)) dX9_writeHead_2 ⟨Nat.le_of_ble_eq_true rfl, Nat.le_of_ble_eq_true rfl⟩) hW hS hA (fun M1 H locs hW hS hf => ?_)
  refine lv_aload_n hx hb dX9_writeHead_5 rfl (lv_at hl 0 rfl) ?_
  obtain ⟨b3, hb3, hf⟩ := hf
  refine gm_getR (C := RX9) (T := TX9) (N := 7) (j := 0) hx hb hts inT_9 hown hK hW k2 (by decide) rfl (by decide) rfl (hts _ kw_213) rfl dX9_writeHead_6 hb3 ?_
  refine lv_aload_n hx hb dX9_writeHead_9 rfl (lv_at hl 1 rfl) ?_
  obtain ⟨k4, hf⟩ := hf
  refine gm_getI (C := RX8) (T := TX8) (N := 9) (j := 0) hx hb hts inT_8 hown hK hW k4 (by decide) rfl (by decide) rfl (hts _ kw_171) rfl dX9_writeHead_10 ?_
  refine lv_sipush (v := 1024) hx hb dX9_writeHead_13 (by decide +kernel) ?_
  refine lv_imul hx hb dX9_writeHead_16 ?_
  refine lv_aload_n hx hb dX9_writeHead_17 rfl (lv_at hl 0 rfl) ?_
  obtain ⟨b5, hb5, hf⟩ := hf
  refine gm_getR (C := RX9) (T := TX9) (N := 7) (j := 5) hx hb hts inT_9 hown hK hW k2 (by decide) rfl (by decide) rfl (hts _ kw_223) rfl dX9_writeHead_18 hb5 ?_
  refine lv_iconst (v := 0) hx hb dX9_writeHead_21 (by decide +kernel) ?_
  refine lv_aload_n hx hb dX9_writeHead_22 rfl (lv_at hl 0 rfl) ?_
  obtain ⟨b6, hb6, hf⟩ := hf
  refine gm_getR (C := RX9) (T := TX9) (N := 7) (j := 5) hx hb hts inT_9 hown hK hW k2 (by decide) rfl (by decide) rfl (hts _ kw_223) rfl dX9_writeHead_23 hb6 ?_
  obtain ⟨k7, hf⟩ := hf
  refine gm_alen hx hb hK hW (by rw [k7]; decide) dX9_writeHead_26 ?_
  obtain ⟨k10, hf⟩ := hf
  refine gm_ci (va_runV (As := [.int ((mI M1 v1 0) * 1024), .ref b5, .int 0, .int (nI (yN Y b6))]) (rest := []) ⟨hx, hb, hml, hown, hts⟩ (m_X3_write l D cy tq _ Y _ _ _ _ _ _ _) (cwV 4 hts (good_V kw_916 kw_846 kw_847 kw_7 kw_848) rfl rfl rfl (by decide +kernel) ⟨Nat.le_of_ble_eq_true rfl, Nat.le_of_ble_eq_true rfl⟩) (gm_preV hK hW hC hS hA k10 (by decide) (q := (RX3, TX3, 4)) rfl rfl hf) rfl rfl hl.1 rfl (lv_room (Nat.le_of_ble_eq_true rfl)) dX9_writeHead_27 ⟨Nat.le_of_ble_eq_true rfl, Nat.le_of_ble_eq_true rfl⟩) hW hS hA (fun r9 M8 H locs hW hS hf => ?_)
  exact gm_zret hx hb hr hlocks hW hS hf.1 hf.2 dX9_writeHead_30

abbrev rm_X9_own : Room := { frames := 2, cells := 0, slots := 0, locals := 80 }
def f_X9_own (Y : Ly) (v0 : Nat) (M : Mm) (Kn : Nat → Mm → Prop) : Prop :=
  yK Y v0 = 9 ∧ (∃ b2 : Nat, mR M v0 1 = some b2 ∧ (∃ b3 : Nat, mR M v0 1 = some b3 ∧ (yK Y b3 = 104 ∧ (yK Y b2 = 104 ∧ (vp_in ((nI (yN Y b3)) - 1) (yN Y b2) ∧ (∃ b7 : Nat, mR M b2 ((nI (yN Y b3)) - 1).toNatClampNeg = some b7 ∧ (Kn b7 M)))))))
set_option maxHeartbeats 4000000 in
set_option maxRecDepth 100000 in
theorem m_X9_own (l : Launch) (D : va_G) (cy : Cy) (tq sz : Nat) (Y : Ly) (v0 : Nat) (M : Mm) (Kn : Nat → Mm → Prop) : Met l yX9_own (Cond.code yX9_own cX9_own 1 (some (.object RX8)) :: TT) rm_X9_own (PcG D cy tq [.ref v0] sz Y M (f_X9_own Y v0 M Kn)) (va_Qr (fun _ => True) (BR D cy (Am Y sz) Y Kn) (Am Y sz)) 0 0 (Am Y sz) := by
  refine Met.ofW (cc := cX9_own) (maxL := 1) (ret := (some (.object RX8))) (by decide) rfl ?_
  intro p e s m args below meth c s₁ B hml hv
  obtain ⟨hargs, hsz, hW, hK, hC, hf⟩ := hv
  subst hsz
  have hx := B.exec
  have hb := B.bytes
  have hr := B.returns
  have hts : ∀ w ∈ TT, w.before args s = true := fun w h => atoms_spec (ws := Cond.code yX9_own cX9_own 1 (some (.object RX8)) :: TT) B.pre w (List.mem_cons_of_mem _ h)
  have hown : s.vm.findClass RX9 = some m.cls := findClass_of_methodNamed B.named
  have hlocks := B.notSynchronized
  replace hW := Wd_self (sz := s.heap.size) hW
  generalize hAe : Am Y s.heap.size = A at hW hC ⊢
  have hA : ∀ q : Nat, s.heap.size ≤ q → A q := fun q h => by rw [← hAe]; exact Or.inr h
  clear hAe
  have hS : va_S A s.heap s.heap [] := va_S.rf
  obtain ⟨ls, hE, hl⟩ := gm_entry m [.ref v0] (n := 1) hargs (Nat.le_of_ble_eq_true rfl)
  rw [hE]
  have hl : lv_has ls 1 [(0, .ref v0)] := hl
  show W p l e rm_X9_own s m args below meth c s.heap [] 0 0 (MQ below (va_Qr (fun _ => True) (BR D cy A Y Kn) A) args s 0 0 A) (F0 m 0 ls [])
  unfold f_X9_own at hf
  refine lv_aload_n hx hb dX9_own_0 rfl (lv_at hl 0 rfl) ?_
  obtain ⟨k1, hf⟩ := hf
  obtain ⟨b2, hb2, hf⟩ := hf
  refine gm_getR (C := RX9) (T := TX9) (N := 7) (j := 1) hx hb hts inT_9 hown hK hW k1 (by decide) rfl (by decide) rfl (hts _ kw_216) rfl dX9_own_1 hb2 ?_
  refine lv_aload_n hx hb dX9_own_4 rfl (lv_at hl 0 rfl) ?_
  obtain ⟨b3, hb3, hf⟩ := hf
  refine gm_getR (C := RX9) (T := TX9) (N := 7) (j := 1) hx hb hts inT_9 hown hK hW k1 (by decide) rfl (by decide) rfl (hts _ kw_216) rfl dX9_own_5 hb3 ?_
  obtain ⟨k4, hf⟩ := hf
  refine gm_alen hx hb hK hW (by rw [k4]; decide) dX9_own_8 ?_
  refine lv_iconst (v := 1) hx hb dX9_own_9 (by decide +kernel) ?_
  refine lv_isub hx hb dX9_own_10 ?_
  obtain ⟨k5, hf⟩ := hf
  obtain ⟨h6, hf⟩ := hf
  obtain ⟨b7, hb7, hf⟩ := hf
  refine gm_aald hx hb hK hW k5 h6 hb7 dX9_own_11 ?_
  exact gm_aret hx hb hr (by first | exact Or.inl ⟨_, rfl⟩ | exact Or.inr ⟨_, rfl⟩) hlocks hW hS hf dX9_own_12

abbrev rm_X9_hasOpenRoom : Room := { frames := 2, cells := 0, slots := 0, locals := 80 }
def f_X9_hasOpenRoom_35 (Y : Ly) (M : Mm) (Kn : Int32 → Mm → Prop) (y3 : Int32) : Prop :=
  bz y3 ∧ Kn y3 M
def f_X9_hasOpenRoom_34 (Y : Ly) (M : Mm) (Kn : Int32 → Mm → Prop) : Prop :=
  f_X9_hasOpenRoom_35 Y M Kn 0
def f_X9_hasOpenRoom (Y : Ly) (v0 : Nat) (v1 : Nat) (v2 : Int32) (M : Mm) (Kn : Int32 → Mm → Prop) : Prop :=
  yK Y v1 = 8 ∧ (∀ x2 : Int32, x2 = (mI M v1 3) - 1 → ((x2 < 0 → (f_X9_hasOpenRoom_34 Y M Kn)) ∧ (¬ (x2 < 0) → (∃ b5 : Nat, mR M v1 5 = some b5 ∧ (yK Y b5 = 101 ∧ (vp_in x2 (yN Y b5) ∧ (yK Y v0 = 9 ∧ ((((mI M v0 2) * 1024) < ((mI M b5 x2.toNatClampNeg) + v2) → (f_X9_hasOpenRoom_34 Y M Kn)) ∧ (¬ (((mI M v0 2) * 1024) < ((mI M b5 x2.toNatClampNeg) + v2)) → (f_X9_hasOpenRoom_35 Y M Kn 1))))))))))
set_option maxHeartbeats 4000000 in
set_option maxRecDepth 100000 in
theorem m_X9_hasOpenRoom (l : Launch) (D : va_G) (cy : Cy) (tq sz : Nat) (Y : Ly) (v0 : Nat) (v1 : Nat) (v2 : Int32) (M : Mm) (Kn : Int32 → Mm → Prop) : Met l yX9_hasOpenRoom (Cond.code yX9_hasOpenRoom cX9_hasOpenRoom 4 (some .boolean) :: TT) rm_X9_hasOpenRoom (PcG D cy tq [.ref v0, .ref v1, .int v2] sz Y M (f_X9_hasOpenRoom Y v0 v1 v2 M Kn)) (va_Qi Kn (BG D cy (Am Y sz) Y) (Am Y sz)) 0 0 (Am Y sz) := by
  refine Met.ofW (cc := cX9_hasOpenRoom) (maxL := 4) (ret := (some .boolean)) (by decide) rfl ?_
  intro p e s m args below meth c s₁ B hml hv
  obtain ⟨hargs, hsz, hW, hK, hC, hf⟩ := hv
  subst hsz
  have hx := B.exec
  have hb := B.bytes
  have hr := B.returns
  have hts : ∀ w ∈ TT, w.before args s = true := fun w h => atoms_spec (ws := Cond.code yX9_hasOpenRoom cX9_hasOpenRoom 4 (some .boolean) :: TT) B.pre w (List.mem_cons_of_mem _ h)
  have hown : s.vm.findClass RX9 = some m.cls := findClass_of_methodNamed B.named
  have hlocks := B.notSynchronized
  replace hW := Wd_self (sz := s.heap.size) hW
  generalize hAe : Am Y s.heap.size = A at hW hC ⊢
  have hA : ∀ q : Nat, s.heap.size ≤ q → A q := fun q h => by rw [← hAe]; exact Or.inr h
  clear hAe
  have hS : va_S A s.heap s.heap [] := va_S.rf
  obtain ⟨ls, hE, hl⟩ := gm_entry m [.ref v0, .ref v1, .int v2] (n := 4) hargs (Nat.le_of_ble_eq_true rfl)
  rw [hE]
  have hl : lv_has ls 4 [(0, .ref v0), (1, .ref v1), (2, .int v2)] := hl
  show W p l e rm_X9_hasOpenRoom s m args below meth c s.heap [] 0 0 (MQ below (va_Qi Kn (BG D cy A Y) A) args s 0 0 A) (F0 m 0 ls [])
  unfold f_X9_hasOpenRoom at hf
  refine lv_aload_n hx hb dX9_hasOpenRoom_0 rfl (lv_at hl 1 rfl) ?_
  obtain ⟨k1, hf⟩ := hf
  refine gm_getI (C := RX8) (T := TX8) (N := 9) (j := 3) hx hb hts inT_8 hown hK hW k1 (by decide) rfl (by decide) rfl (hts _ kw_180) rfl dX9_hasOpenRoom_1 ?_
  refine lv_iconst (v := 1) hx hb dX9_hasOpenRoom_4 (by decide +kernel) ?_
  refine lv_isub hx hb dX9_hasOpenRoom_5 ?_
  refine lv_topi (fun x2 ex2 => ?_)
  replace hf := hf x2 ex2
  refine lv_istore_n (lv' := [(3, .int x2), (0, .ref v0), (1, .ref v1), (2, .int v2)]) hx hb dX9_hasOpenRoom_6 rfl hl (by decide) rfl (fun ls hl => ?_)
  refine lv_iload_n hx hb dX9_hasOpenRoom_7 rfl (lv_at hl 0 rfl) ?_
  have j35 : ∀ (y3 : Int32) (H : Heap) (locs : List Loc) (ls : Array Slot), lv_has ls 4 [] → Wd D cy A Y M H → va_S A s.heap H locs → f_X9_hasOpenRoom_35 Y M Kn y3 → W p l e rm_X9_hasOpenRoom s m args below meth c H locs 0 0 (MQ below (va_Qi Kn (BG D cy A Y) A) args s 0 0 A) (F0 m 35 ls [.int y3]) := by
    intro y3 H locs ls hl hW hS hf
    unfold f_X9_hasOpenRoom_35 at hf
    exact gm_zret hx hb hr hlocks hW hS hf.1 hf.2 dX9_hasOpenRoom_35
  have j34 : ∀ (H : Heap) (locs : List Loc) (ls : Array Slot), lv_has ls 4 [] → Wd D cy A Y M H → va_S A s.heap H locs → f_X9_hasOpenRoom_34 Y M Kn  → W p l e rm_X9_hasOpenRoom s m args below meth c H locs 0 0 (MQ below (va_Qi Kn (BG D cy A Y) A) args s 0 0 A) (F0 m 34 ls []) := by
    intro  H locs ls hl hW hS hf
    unfold f_X9_hasOpenRoom_34 at hf
    refine lv_iconst (v := 0) hx hb dX9_hasOpenRoom_34 (by decide +kernel) ?_
    exact j35 _ _ _ _ (lv_sub hl [] rfl) hW hS hf
  refine lv_if_lt (tgt := 34) hx hb dX9_hasOpenRoom_8 (by decide) (fun c4 => ?_) (fun c4 => ?_)
  · replace hf := hf.1 c4
    exact j34  _ _ _ (lv_sub hl [] rfl) hW hS hf
  · replace hf := hf.2 c4
    refine lv_aload_n hx hb dX9_hasOpenRoom_11 rfl (lv_at hl 2 rfl) ?_
    obtain ⟨b5, hb5, hf⟩ := hf
    refine gm_getR (C := RX8) (T := TX8) (N := 9) (j := 5) hx hb hts inT_8 hown hK hW k1 (by decide) rfl (by decide) rfl (hts _ kw_186) rfl dX9_hasOpenRoom_12 hb5 ?_
    refine lv_iload_n hx hb dX9_hasOpenRoom_15 rfl (lv_at hl 0 rfl) ?_
    obtain ⟨k6, hf⟩ := hf
    obtain ⟨h7, hf⟩ := hf
    refine gm_iald hx hb hK hW k6 h7 dX9_hasOpenRoom_16 ?_
    refine lv_iload_n hx hb dX9_hasOpenRoom_17 rfl (lv_at hl 3 rfl) ?_
    refine lv_iadd hx hb dX9_hasOpenRoom_18 ?_
    refine lv_aload_n hx hb dX9_hasOpenRoom_19 rfl (lv_at hl 1 rfl) ?_
    obtain ⟨k8, hf⟩ := hf
    refine gm_getI (C := RX9) (T := TX9) (N := 7) (j := 2) hx hb hts inT_9 hown hK hW k8 (by decide) rfl (by decide) rfl (hts _ kw_219) rfl dX9_hasOpenRoom_20 ?_
    refine lv_sipush (v := 1024) hx hb dX9_hasOpenRoom_23 (by decide +kernel) ?_
    refine lv_imul hx hb dX9_hasOpenRoom_26 ?_
    refine lv_icmp_gt (tgt := 34) hx hb dX9_hasOpenRoom_27 (by decide) (fun c9 => ?_) (fun c9 => ?_)
    · replace hf := hf.1 c9
      exact j34  _ _ _ (lv_sub hl [] rfl) hW hS hf
    · replace hf := hf.2 c9
      refine lv_iconst (v := 1) hx hb dX9_hasOpenRoom_30 (by decide +kernel) ?_
      refine lv_goto (tgt := 35) hx hb dX9_hasOpenRoom_31 (by decide) ?_
      exact j35 _ _ _ _ (lv_sub hl [] rfl) hW hS hf

abbrev rm_X9_append : Room := { frames := 5, cells := 0, slots := 0, locals := 149 }
def f_X9_append_128 (Y : Ly) (Kn : Int64 → Mm → Prop) (M18 : Mm) (y19 : Int64) : Prop :=
  Kn y19 M18
def f_X9_append_113 (Y : Ly) (Kn : Int64 → Mm → Prop) (x6 : Int64) (y17 : Int32) (M18 : Mm) : Prop :=
  (y17 = 0 → (f_X9_append_128 Y Kn M18 (-3))) ∧ (¬ (y17 = 0) → (f_X9_append_128 Y Kn M18 x6))
def f_X9_append_112 (Y : Ly) (Kn : Int64 → Mm → Prop) (x6 : Int64) (M21 : Mm) : Prop :=
  f_X9_append_113 Y Kn x6 0 M21
def f_X9_append_48 (Y : Ly) (v0 : Nat) (v1 : Nat) (v2 : Nat) (v3 : Int32) (Kn : Int64 → Mm → Prop) (M4 : Mm) : Prop :=
  yK Y v1 = 8 ∧ (∀ x6 : Int64, x6 = mJ M4 v1 2 → (f_X1_put Y v2 0 8 x6 M4 (fun M7 => (f_X0_countOf Y v2 0 M7 (fun r9 M8 => (∀ M10 : Mm, M10 = sJ M8 v1 (m1 (mJ M8 v1) 2 ((mJ M7 v1 2) + r9.toInt64)) → (f_X8_addBatch Y v1 v3 M10 (fun r12 M11 => (∃ b13 : Nat, mR M11 v0 0 = some b13 ∧ (yK Y b13 = 3 ∧ (f_X3_write Y b13 r12 v2 0 v3 M11 (fun r15 M14 => ((r15 = 0 → (f_X9_append_112 Y Kn x6 M14)) ∧ (¬ (r15 = 0) → (f_X9_writeHead Y v0 v1 M14 (fun r24 M23 => ((r24 = 0 → (f_X9_append_112 Y Kn x6 M23)) ∧ (¬ (r24 = 0) → (f_X9_append_113 Y Kn x6 1 M23)))))))))))))))))))
def f_X9_append_30 (Y : Ly) (v0 : Nat) (v1 : Nat) (v2 : Nat) (v3 : Int32) (Kn : Int64 → Mm → Prop) (y29 : Int32) (M30 : Mm) : Prop :=
  (¬ y29 = (-1) → (f_X8_addSegment Y v1 y29 M30 (fun M32 => (f_X9_append_48 Y v0 v1 v2 v3 Kn M32)))) ∧ (y29 = (-1) → (Kn (-2) M30))
def f_X9_append (Y : Ly) (v0 : Nat) (v1 : Nat) (v2 : Nat) (v3 : Int32) (M : Mm) (Kn : Int64 → Mm → Prop) : Prop :=
  yK Y v0 = 9 ∧ (f_X9_hasOpenRoom Y v0 v1 v3 M (fun r2 M1 => ((¬ r2 = 0 → (f_X9_append_48 Y v0 v1 v2 v3 Kn M1)) ∧ (r2 = 0 → (f_X9_countUses Y v0 M1 (fun M27 => (yK Y v1 = 8 ∧ ((60 ≤ (mI M27 v1 3) → (f_X9_append_30 Y v0 v1 v2 v3 Kn (-1) M27)) ∧ (¬ (60 ≤ (mI M27 v1 3)) → (f_X9_takeSegment Y v0 M27 (fun r35 M34 => (f_X9_append_30 Y v0 v1 v2 v3 Kn r35 M34))))))))))))
set_option maxHeartbeats 4000000 in
set_option maxRecDepth 100000 in
theorem m_X9_append (l : Launch) (D : va_G) (cy : Cy) (tq sz : Nat) (Y : Ly) (v0 : Nat) (v1 : Nat) (v2 : Nat) (v3 : Int32) (M : Mm) (Kn : Int64 → Mm → Prop) : Met l yX9_append (Cond.code yX9_append cX9_append 8 (some .long) :: TT) rm_X9_append (PcG D cy tq [.ref v0, .ref v1, .ref v2, .int v3] sz Y M (f_X9_append Y v0 v1 v2 v3 M Kn)) (va_Ql Kn (BG D cy (Am Y sz) Y) (Am Y sz)) 0 0 (Am Y sz) := by
  refine Met.ofW (cc := cX9_append) (maxL := 8) (ret := (some .long)) (by decide) rfl ?_
  intro p e s m args below meth c s₁ B hml hv
  obtain ⟨hargs, hsz, hW, hK, hC, hf⟩ := hv
  subst hsz
  have hx := B.exec
  have hb := B.bytes
  have hr := B.returns
  have hts : ∀ w ∈ TT, w.before args s = true := fun w h => atoms_spec (ws := Cond.code yX9_append cX9_append 8 (some .long) :: TT) B.pre w (List.mem_cons_of_mem _ h)
  have hown : s.vm.findClass RX9 = some m.cls := findClass_of_methodNamed B.named
  have hlocks := B.notSynchronized
  replace hW := Wd_self (sz := s.heap.size) hW
  generalize hAe : Am Y s.heap.size = A at hW hC ⊢
  have hA : ∀ q : Nat, s.heap.size ≤ q → A q := fun q h => by rw [← hAe]; exact Or.inr h
  clear hAe
  have hS : va_S A s.heap s.heap [] := va_S.rf
  obtain ⟨ls, hE, hl⟩ := gm_entry m [.ref v0, .ref v1, .ref v2, .int v3] (n := 8) hargs (Nat.le_of_ble_eq_true rfl)
  rw [hE]
  have hl : lv_has ls 8 [(0, .ref v0), (1, .ref v1), (2, .ref v2), (3, .int v3)] := hl
  show W p l e rm_X9_append s m args below meth c s.heap [] 0 0 (MQ below (va_Ql Kn (BG D cy A Y) A) args s 0 0 A) (F0 m 0 ls [])
  unfold f_X9_append at hf
  refine lv_aload_n hx hb dX9_append_0 rfl (lv_at hl 0 rfl) ?_
  refine lv_aload_n hx hb dX9_append_1 rfl (lv_at hl 1 rfl) ?_
  refine lv_iload_n hx hb dX9_append_2 rfl (lv_at hl 3 rfl) ?_
  obtain ⟨k3, hf⟩ := hf
  refine gm_ci (va_runV (As := [.ref v1, .int v3]) (rest := []) ⟨hx, hb, hml, hown, hts⟩ (m_X9_hasOpenRoom l D cy tq _ Y _ _ _ _ _) (cwV 2 hts (good_V kw_896 kw_897 kw_1798 kw_8 kw_898) rfl rfl rfl (by decide +kernel) ⟨Nat.le_of_ble_eq_true rfl, Nat.le_of_ble_eq_true rfl⟩) (gm_preV hK hW hC hS hA k3 (by decide) (q := (RX9, TX9, 7)) rfl rfl hf) rfl rfl hl.1 rfl (lv_room (Nat.le_of_ble_eq_true rfl)) dX9_append_3 ⟨Nat.le_of_ble_eq_true rfl, Nat.le_of_ble_eq_true rfl⟩) hW hS hA (fun r2 M1 H locs hW hS hf => ?_)
  have j48 : ∀ (M4 : Mm) (H : Heap) (locs : List Loc) (ls : Array Slot), lv_has ls 8 [(0, .ref v0), (1, .ref v1), (2, .ref v2), (3, .int v3)] → Wd D cy A Y M4 H → va_S A s.heap H locs → f_X9_append_48 Y v0 v1 v2 v3 Kn M4 → W p l e rm_X9_append s m args below meth c H locs 0 0 (MQ below (va_Ql Kn (BG D cy A Y) A) args s 0 0 A) (F0 m 48 ls []) := by
    intro M4 H locs ls hl hW hS hf
    unfold f_X9_append_48 at hf
    refine lv_aload_n hx hb dX9_append_48 rfl (lv_at hl 1 rfl) ?_
    obtain ⟨k5, hf⟩ := hf
    refine gm_getJ (C := RX8) (T := TX8) (N := 9) (j := 2) hx hb hts inT_8 hown hK hW k5 (by decide) rfl (by decide) rfl (hts _ kw_176) rfl dX9_append_49 ?_
    refine lv_topl (fun x6 ex6 => ?_)
    replace hf := hf x6 ex6
    refine lv_lstore (lv' := [(4, .long x6), (0, .ref v0), (1, .ref v1), (2, .ref v2), (3, .int v3)]) hx hb dX9_append_52 hl (by decide) rfl (fun ls hl => ?_)
    refine lv_aload_n hx hb dX9_append_54 rfl (lv_at hl 3 rfl) ?_
    refine lv_iconst (v := 0) hx hb dX9_append_55 (by decide +kernel) ?_
    refine lv_bipush (v := 8) hx hb dX9_append_56 (by decide +kernel) ?_
    refine lv_lload hx hb dX9_append_58 (lv_at hl 0 rfl) ?_
    refine gm_cv (va_runS (As := [.ref v2, .int 0, .int 8, .long x6]) (rest := []) ⟨hx, hb, hml, hown, hts⟩ (m_X1_put l D cy tq _ Y _ _ _ _ _ _) (va_cwS 4 hts (good_S kw_914 kw_450 kw_17 kw_451) rfl rfl rfl (by decide +kernel) ⟨Nat.le_of_ble_eq_true rfl, Nat.le_of_ble_eq_true rfl⟩) (gm_preS hK hW hC hS hA hf) rfl rfl hl.1 rfl (lv_room (Nat.le_of_ble_eq_true rfl)) dX9_append_60 ⟨Nat.le_of_ble_eq_true rfl, Nat.le_of_ble_eq_true rfl⟩) hW hS hA (fun M7 H locs hW hS hf => ?_)
    refine lv_aload_n hx hb dX9_append_63 rfl (lv_at hl 2 rfl) ?_
    refine lv_dup hx hb dX9_append_64 rfl ?_
    refine gm_getJ (C := RX8) (T := TX8) (N := 9) (j := 2) hx hb hts inT_8 hown hK hW k5 (by decide) rfl (by decide) rfl (hts _ kw_176) rfl dX9_append_65 ?_
    refine lv_aload_n hx hb dX9_append_68 rfl (lv_at hl 3 rfl) ?_
    refine lv_iconst (v := 0) hx hb dX9_append_69 (by decide +kernel) ?_
    refine gm_ci (va_runS (As := [.ref v2, .int 0]) (rest := [.long (mJ M7 v1 2), .ref v1]) ⟨hx, hb, hml, hown, hts⟩ (m_X0_countOf l D cy tq _ Y _ _ _ _) (va_cwS 2 hts (good_S kw_915 kw_782 kw_20 kw_783) rfl rfl rfl (by decide +kernel) ⟨Nat.le_of_ble_eq_true rfl, Nat.le_of_ble_eq_true rfl⟩) (gm_preS hK hW hC hS hA hf) rfl rfl hl.1 rfl (lv_room (Nat.le_of_ble_eq_true rfl)) dX9_append_70 ⟨Nat.le_of_ble_eq_true rfl, Nat.le_of_ble_eq_true rfl⟩) hW hS hA (fun r9 M8 H locs hW hS hf => ?_)
    refine lv_i2l hx hb dX9_append_73 rfl ?_
    refine lv_ladd hx hb dX9_append_74 ?_
    refine gm_putJ (C := RX8) (T := TX8) (N := 9) (j := 2) hx hb hts inT_8 tyX8 tyX8_ok nmX8 hown hK hW hS k5 (by decide) rfl (by decide) rfl (hts _ kw_176) rfl rfl rfl rfl dX9_append_75 (fun H locs M10 eM10 hW hS => ?_)
    replace hf := hf M10 eM10
    refine lv_aload_n hx hb dX9_append_78 rfl (lv_at hl 2 rfl) ?_
    refine lv_iload_n hx hb dX9_append_79 rfl (lv_at hl 4 rfl) ?_
    refine gm_ci (va_runV (As := [.int v3]) (rest := []) ⟨hx, hb, hml, hown, hts⟩ (m_X8_addBatch l D cy tq _ Y _ _ _ _) (cwV 1 hts (good_V kw_359 kw_360 kw_361 kw_9 kw_362) rfl rfl rfl (by decide +kernel) ⟨Nat.le_of_ble_eq_true rfl, Nat.le_of_ble_eq_true rfl⟩) (gm_preV hK hW hC hS hA k5 (by decide) (q := (RX8, TX8, 9)) rfl rfl hf) rfl rfl hl.1 rfl (lv_room (Nat.le_of_ble_eq_true rfl)) dX9_append_80 ⟨Nat.le_of_ble_eq_true rfl, Nat.le_of_ble_eq_true rfl⟩) hW hS hA (fun r12 M11 H locs hW hS hf => ?_)
    refine lv_istore (lv' := [(6, .int r12), (4, .long x6), (0, .ref v0), (1, .ref v1), (2, .ref v2), (3, .int v3)]) hx hb dX9_append_83 hl (by decide) rfl (fun ls hl => ?_)
    refine lv_aload_n hx hb dX9_append_85 rfl (lv_at hl 2 rfl) ?_
    obtain ⟨b13, hb13, hf⟩ := hf
    refine gm_getR (C := RX9) (T := TX9) (N := 7) (j := 0) hx hb hts inT_9 hown hK hW k3 (by decide) rfl (by decide) rfl (hts _ kw_213) rfl dX9_append_86 hb13 ?_
    refine lv_iload hx hb dX9_append_89 (lv_at hl 0 rfl) ?_
    refine lv_aload_n hx hb dX9_append_91 rfl (lv_at hl 4 rfl) ?_
    refine lv_iconst (v := 0) hx hb dX9_append_92 (by decide +kernel) ?_
    refine lv_iload_n hx hb dX9_append_93 rfl (lv_at hl 5 rfl) ?_
    obtain ⟨k16, hf⟩ := hf
    refine gm_ci (va_runV (As := [.int r12, .ref v2, .int 0, .int v3]) (rest := []) ⟨hx, hb, hml, hown, hts⟩ (m_X3_write l D cy tq _ Y _ _ _ _ _ _ _) (cwV 4 hts (good_V kw_916 kw_846 kw_847 kw_7 kw_848) rfl rfl rfl (by decide +kernel) ⟨Nat.le_of_ble_eq_true rfl, Nat.le_of_ble_eq_true rfl⟩) (gm_preV hK hW hC hS hA k16 (by decide) (q := (RX3, TX3, 4)) rfl rfl hf) rfl rfl hl.1 rfl (lv_room (Nat.le_of_ble_eq_true rfl)) dX9_append_94 ⟨Nat.le_of_ble_eq_true rfl, Nat.le_of_ble_eq_true rfl⟩) hW hS hA (fun r15 M14 H locs hW hS hf => ?_)
    have j113 : ∀ (y17 : Int32) (M18 : Mm) (H : Heap) (locs : List Loc) (ls : Array Slot), lv_has ls 8 [(4, .long x6)] → Wd D cy A Y M18 H → va_S A s.heap H locs → f_X9_append_113 Y Kn x6 y17 M18 → W p l e rm_X9_append s m args below meth c H locs 0 0 (MQ below (va_Ql Kn (BG D cy A Y) A) args s 0 0 A) (F0 m 113 ls [.int y17]) := by
      intro y17 M18 H locs ls hl hW hS hf
      unfold f_X9_append_113 at hf
      refine lv_istore (lv' := [(7, .int y17), (4, .long x6)]) hx hb dX9_append_113 hl (by decide) rfl (fun ls hl => ?_)
      refine lv_iload hx hb dX9_append_115 (lv_at hl 0 rfl) ?_
      have j128 : ∀ (y19 : Int64) (H : Heap) (locs : List Loc) (ls : Array Slot), lv_has ls 8 [] → Wd D cy A Y M18 H → va_S A s.heap H locs → f_X9_append_128 Y Kn M18 y19 → W p l e rm_X9_append s m args below meth c H locs 0 0 (MQ below (va_Ql Kn (BG D cy A Y) A) args s 0 0 A) (F0 m 128 ls [.long y19]) := by
        intro y19 H locs ls hl hW hS hf
        unfold f_X9_append_128 at hf
        exact gm_lret hx hb hr hlocks hW hS hf dX9_append_128
      refine lv_if_eq (tgt := 125) hx hb dX9_append_117 (by decide) (fun c20 => ?_) (fun c20 => ?_)
      · replace hf := hf.1 c20
        refine lv_ldc2 (v := -3) hx hb hown (hts _ kw_924) dX9_append_125 ?_
        exact j128 _ _ _ _ (lv_sub hl [] rfl) hW hS hf
      · replace hf := hf.2 c20
        refine lv_lload hx hb dX9_append_120 (lv_at hl 1 rfl) ?_
        refine lv_goto (tgt := 128) hx hb dX9_append_122 (by decide) ?_
        exact j128 _ _ _ _ (lv_sub hl [] rfl) hW hS hf
    have j112 : ∀ (M21 : Mm) (H : Heap) (locs : List Loc) (ls : Array Slot), lv_has ls 8 [(4, .long x6)] → Wd D cy A Y M21 H → va_S A s.heap H locs → f_X9_append_112 Y Kn x6 M21 → W p l e rm_X9_append s m args below meth c H locs 0 0 (MQ below (va_Ql Kn (BG D cy A Y) A) args s 0 0 A) (F0 m 112 ls []) := by
      intro M21 H locs ls hl hW hS hf
      unfold f_X9_append_112 at hf
      refine lv_iconst (v := 0) hx hb dX9_append_112 (by decide +kernel) ?_
      exact j113 _ _ _ _ _ (lv_sub hl [0] rfl) hW hS hf
    refine lv_if_eq (tgt := 112) hx hb dX9_append_97 (by decide) (fun c22 => ?_) (fun c22 => ?_)
    · replace hf := hf.1 c22
      exact j112 _ _ _ _ (lv_sub hl [1] rfl) hW hS hf
    · replace hf := hf.2 c22
      refine lv_aload_n hx hb dX9_append_100 rfl (lv_at hl 2 rfl) ?_
      refine lv_aload_n hx hb dX9_append_101 rfl (lv_at hl 3 rfl) ?_
      refine gm_ci (va_runV (As := [.ref v1]) (rest := []) ⟨hx, hb, hml, hown, hts⟩ (m_X9_writeHead l D cy tq _ Y _ _ _ _) (cwV 1 hts (good_V kw_917 kw_918 kw_919 kw_8 kw_920) rfl rfl rfl (by decide +kernel) ⟨Nat.le_of_ble_eq_true rfl, Nat.le_of_ble_eq_true rfl⟩) (gm_preV hK hW hC hS hA k3 (by decide) (q := (RX9, TX9, 7)) rfl rfl hf) rfl rfl hl.1 rfl (lv_room (Nat.le_of_ble_eq_true rfl)) dX9_append_102 ⟨Nat.le_of_ble_eq_true rfl, Nat.le_of_ble_eq_true rfl⟩) hW hS hA (fun r24 M23 H locs hW hS hf => ?_)
      refine lv_if_eq (tgt := 112) hx hb dX9_append_105 (by decide) (fun c25 => ?_) (fun c25 => ?_)
      · replace hf := hf.1 c25
        exact j112 _ _ _ _ (lv_sub hl [1] rfl) hW hS hf
      · replace hf := hf.2 c25
        refine lv_iconst (v := 1) hx hb dX9_append_108 (by decide +kernel) ?_
        refine lv_goto (tgt := 113) hx hb dX9_append_109 (by decide) ?_
        exact j113 _ _ _ _ _ (lv_sub hl [1] rfl) hW hS hf
  refine lv_if_ne (tgt := 48) hx hb dX9_append_6 (by decide) (fun c26 => ?_) (fun c26 => ?_)
  · replace hf := hf.1 c26
    exact j48 _ _ _ _ (lv_sub hl [0, 1, 2, 3] rfl) hW hS hf
  · replace hf := hf.2 c26
    refine lv_aload_n hx hb dX9_append_9 rfl (lv_at hl 0 rfl) ?_
    refine gm_cv (va_runV (As := []) (rest := []) ⟨hx, hb, hml, hown, hts⟩ (m_X9_countUses l D cy tq _ Y _ _ _) (cwV 0 hts (good_V kw_899 kw_900 kw_901 kw_8 kw_902) rfl rfl rfl (by decide +kernel) ⟨Nat.le_of_ble_eq_true rfl, Nat.le_of_ble_eq_true rfl⟩) (gm_preV hK hW hC hS hA k3 (by decide) (q := (RX9, TX9, 7)) rfl rfl hf) rfl rfl hl.1 rfl (lv_room (Nat.le_of_ble_eq_true rfl)) dX9_append_10 ⟨Nat.le_of_ble_eq_true rfl, Nat.le_of_ble_eq_true rfl⟩) hW hS hA (fun M27 H locs hW hS hf => ?_)
    refine lv_aload_n hx hb dX9_append_13 rfl (lv_at hl 1 rfl) ?_
    obtain ⟨k28, hf⟩ := hf
    refine gm_getI (C := RX8) (T := TX8) (N := 9) (j := 3) hx hb hts inT_8 hown hK hW k28 (by decide) rfl (by decide) rfl (hts _ kw_180) rfl dX9_append_14 ?_
    refine lv_bipush (v := 60) hx hb dX9_append_17 (by decide +kernel) ?_
    have j30 : ∀ (y29 : Int32) (M30 : Mm) (H : Heap) (locs : List Loc) (ls : Array Slot), lv_has ls 8 [(0, .ref v0), (1, .ref v1), (2, .ref v2), (3, .int v3)] → Wd D cy A Y M30 H → va_S A s.heap H locs → f_X9_append_30 Y v0 v1 v2 v3 Kn y29 M30 → W p l e rm_X9_append s m args below meth c H locs 0 0 (MQ below (va_Ql Kn (BG D cy A Y) A) args s 0 0 A) (F0 m 30 ls [.int y29]) := by
      intro y29 M30 H locs ls hl hW hS hf
      unfold f_X9_append_30 at hf
      refine lv_istore (lv' := [(4, .int y29), (0, .ref v0), (1, .ref v1), (2, .ref v2), (3, .int v3)]) hx hb dX9_append_30 hl (by decide) rfl (fun ls hl => ?_)
      refine lv_iload hx hb dX9_append_32 (lv_at hl 0 rfl) ?_
      refine lv_iconst (v := -1) hx hb dX9_append_34 (by decide +kernel) ?_
      refine lv_icmp_ne (tgt := 42) hx hb dX9_append_35 (by decide) (fun c31 => ?_) (fun c31 => ?_)
      · replace hf := hf.1 c31
        refine lv_aload_n hx hb dX9_append_42 rfl (lv_at hl 2 rfl) ?_
        refine lv_iload hx hb dX9_append_43 (lv_at hl 0 rfl) ?_
        refine gm_cv (va_runV (As := [.int y29]) (rest := []) ⟨hx, hb, hml, hown, hts⟩ (m_X8_addSegment l D cy tq _ Y _ _ _ _) (cwV 1 hts (good_V kw_347 kw_348 kw_349 kw_9 kw_350) rfl rfl rfl (by decide +kernel) ⟨Nat.le_of_ble_eq_true rfl, Nat.le_of_ble_eq_true rfl⟩) (gm_preV hK hW hC hS hA k28 (by decide) (q := (RX8, TX8, 9)) rfl rfl hf) rfl rfl hl.1 rfl (lv_room (Nat.le_of_ble_eq_true rfl)) dX9_append_45 ⟨Nat.le_of_ble_eq_true rfl, Nat.le_of_ble_eq_true rfl⟩) hW hS hA (fun M32 H locs hW hS hf => ?_)
        exact j48 _ _ _ _ (lv_sub hl [1, 2, 3, 4] rfl) hW hS hf
      · replace hf := hf.2 c31
        refine lv_ldc2 (v := -2) hx hb hown (hts _ kw_913) dX9_append_38 ?_
        exact gm_lret hx hb hr hlocks hW hS hf dX9_append_41
    refine lv_icmp_ge (tgt := 29) hx hb dX9_append_19 (by decide) (fun c33 => ?_) (fun c33 => ?_)
    · replace hf := hf.1 c33
      refine lv_iconst (v := -1) hx hb dX9_append_29 (by decide +kernel) ?_
      exact j30 _ _ _ _ _ (lv_sub hl [0, 1, 2, 3] rfl) hW hS hf
    · replace hf := hf.2 c33
      refine lv_aload_n hx hb dX9_append_22 rfl (lv_at hl 0 rfl) ?_
      refine gm_ci (va_runV (As := []) (rest := []) ⟨hx, hb, hml, hown, hts⟩ (m_X9_takeSegment l D cy tq _ Y _ _ _) (cwV 0 hts (good_V kw_909 kw_910 kw_911 kw_8 kw_912) rfl rfl rfl (by decide +kernel) ⟨Nat.le_of_ble_eq_true rfl, Nat.le_of_ble_eq_true rfl⟩) (gm_preV hK hW hC hS hA k3 (by decide) (q := (RX9, TX9, 7)) rfl rfl hf) rfl rfl hl.1 rfl (lv_room (Nat.le_of_ble_eq_true rfl)) dX9_append_23 ⟨Nat.le_of_ble_eq_true rfl, Nat.le_of_ble_eq_true rfl⟩) hW hS hA (fun r35 M34 H locs hW hS hf => ?_)
      refine lv_goto (tgt := 30) hx hb dX9_append_26 (by decide) ?_
      exact j30 _ _ _ _ _ (lv_sub hl [0, 1, 2, 3] rfl) hW hS hf

abbrev rm_X9_init : Room := { frames := 3, cells := 54, slots := 45633, locals := 102 }
def L_X9_init_47 (Y18 : Ly) (v0 : Nat) (v1 : Nat) (v2 : Int32) (Kn : Ly → Mm → Prop) (x22 : Int32) (Y23 : Ly) (M24 : Mm) (again47 : Int32 → Ly → Mm → Prop) : Prop :=
  (v2 < x22 → (yK Y23 v0 = 9 ∧ (∀ M27 : Mm, M27 = sI M24 v0 (m1 (mI M24 v0) 3 (v2 + 2)) → (yK Y23 v1 = 3 ∧ (f_X3_blocks Y23 v1 M27 (fun r29 M28 => (¬ r29 < 0 ∧ (r29.toNatClampNeg ≤ 256 ∧ (∀ q33 : Nat, yK Y23 q33 = 0 → ∀ Y34 : Ly, Y34 = yNew Y23 q33 100 r29.toNatClampNeg → ∀ M35 : Mm, M35 = mZ M28 q33 → (yK Y34 v0 = 9 ∧ (∀ M37 : Mm, M37 = sR M35 v0 (m1 (mR M35 v0) 4 (some q33)) → (Kn Y34 M37)))))))))))) ∧ (¬ (v2 < x22) → (yK Y23 v0 = 9 ∧ (∃ b39 : Nat, mR M24 v0 1 = some b39 ∧ (∀ q40 : Nat, yK Y23 q40 = 0 → ∀ Y41 : Ly, Y41 = yNew Y23 q40 8 0 → ∀ M42 : Mm, M42 = mZ M24 q40 → (yK Y41 v1 = 3 ∧ (∃ b44 : Nat, mR M42 v1 0 = some b44 ∧ (yK Y41 b44 = 100 ∧ (f_X8_init Y41 q40 (1 + x22) ((nI (yN Y41 b44)) / 61) M42 (fun Y47 M48 => (yK Y47 b39 = 104 ∧ (yK Y47 q40 = 8 ∧ (vp_in x22 (yN Y47 b39) ∧ (∀ M52 : Mm, M52 = sR M48 b39 (m1 (mR M48 b39) x22.toNatClampNeg (some q40)) → (∀ x53 : Int32, x53 = x22 + 1 → (again47 x53 Y47 M52)))))))))))))))
def f_X9_init (Y : Ly) (v0 : Nat) (v1 : Nat) (v2 : Int32) (v3 : Int32) (M : Mm) (Kn : Ly → Mm → Prop) : Prop :=
  ∀ q1 : Nat, yK Y q1 = 0 → ∀ Y2 : Ly, Y2 = yNew Y q1 100 500 → ∀ M3 : Mm, M3 = mZ M q1 → (yK Y2 v0 = 9 ∧ (∀ M5 : Mm, M5 = sR M3 v0 (m1 (mR M3 v0) 5 (some q1)) → (∀ q6 : Nat, yK Y2 q6 = 0 → ∀ Y7 : Ly, Y7 = yNew Y2 q6 10 0 → ∀ M8 : Mm, M8 = mZ M5 q6 → (f_X10_init Y7 q6 M8 (fun Y9 M10 => (yK Y9 v0 = 9 ∧ (∀ M12 : Mm, M12 = sR M10 v0 (m1 (mR M10 v0) 6 (some q6)) → (∀ M13 : Mm, M13 = sR M12 v0 (m1 (mR M12 v0) 0 (some v1)) → (∀ M14 : Mm, M14 = sI M13 v0 (m1 (mI M13 v0) 2 v3) → (¬ (v2 + 1) < 0 ∧ ((v2 + 1).toNatClampNeg ≤ 9 ∧ (∀ q17 : Nat, yK Y9 q17 = 0 → ∀ Y18 : Ly, Y18 = yNew Y9 q17 104 ((v2 + 1).toNatClampNeg) → ∀ M19 : Mm, M19 = mZ M14 q17 → (yK Y18 v0 = 9 ∧ (∀ M21 : Mm, M21 = sR M19 v0 (m1 (mR M19 v0) 1 (some q17)) → (∃ n, n ≤ 10 ∧ LOOP3 (L_X9_init_47 Y18 v0 v1 v2 Kn) n 0 Y18 M21)))))))))))))))
set_option maxHeartbeats 4000000 in
set_option maxRecDepth 100000 in
theorem m_X9_init (l : Launch) (D : va_G) (cy : Cy) (tq sz : Nat) (Y : Ly) (v0 : Nat) (v1 : Nat) (v2 : Int32) (v3 : Int32) (M : Mm) (Kn : Ly → Mm → Prop) : Met l yX9_init (Cond.code yX9_init cX9_init 5 none :: TT) rm_X9_init (PcG D cy tq [.ref v0, .ref v1, .int v2, .int v3] sz Y M (f_X9_init Y v0 v1 v2 v3 M Kn)) (QA D cy (Am Y sz) Kn) 54 45633 (Am Y sz) := by
  refine Met.ofW (cc := cX9_init) (maxL := 5) (ret := none) (by decide) rfl ?_
  intro p e s m args below meth c s₁ B hml hv
  obtain ⟨hargs, hsz, hW, hK, hC, hf⟩ := hv
  subst hsz
  have hx := B.exec
  have hb := B.bytes
  have hr := B.returns
  have hts : ∀ w ∈ TT, w.before args s = true := fun w h => atoms_spec (ws := Cond.code yX9_init cX9_init 5 none :: TT) B.pre w (List.mem_cons_of_mem _ h)
  have hown : s.vm.findClass RX9 = some m.cls := findClass_of_methodNamed B.named
  have hlocks := B.notSynchronized
  have hin : meth.name = "<init>" := (name_of_methodNamed B.named B.method).1
  replace hW := Wd_self (sz := s.heap.size) hW
  generalize hAe : Am Y s.heap.size = A at hW hC ⊢
  have hA : ∀ q : Nat, s.heap.size ≤ q → A q := fun q h => by rw [← hAe]; exact Or.inr h
  clear hAe
  have hS : va_S A s.heap s.heap [] := va_S.rf
  obtain ⟨ls, hE, hl⟩ := gm_entry m [.ref v0, .ref v1, .int v2, .int v3] (n := 5) hargs (Nat.le_of_ble_eq_true rfl)
  rw [hE]
  have hl : lv_has ls 5 [(0, .ref v0), (1, .ref v1), (2, .int v2), (3, .int v3)] := hl
  show W p l e rm_X9_init s m args below meth c s.heap [] 0 0 (MQ below (QA D cy A Kn) args s 54 45633 A) (F0 m 0 ls [])
  unfold f_X9_init at hf
  refine lv_aload_n hx hb dX9_init_0 rfl (lv_at hl 0 rfl) ?_
  refine W.objInit hx hb hown (hts _ kw_162) (hts _ kw_36) (hts _ kw_37) rfl (by rw [hml]; exact hl.1) rfl dX9_init_1 (Nat.le_of_ble_eq_true rfl) (Nat.le_of_ble_eq_true rfl) ?_
  refine W.eq (g2 := F0 m 4 ls []) rfl ?_
  refine lv_aload_n hx hb dX9_init_4 rfl (lv_at hl 0 rfl) ?_
  refine lv_sipush (v := 500) hx hb dX9_init_5 (by decide +kernel) ?_
  refine gm_newb hx hb (hts _ kw_55) hK hW hS hA (n := 500) 500 (by decide +kernel) (by decide +kernel) (Nat.le_refl _) (by decide) (by show _ ≤ 54; omega) (by show _ ≤ 45633; omega) dX9_init_8 (fun q1 H Y2 M3 h0q1 eY2 eM3 hW hS => ?_)
  replace hf := hf q1 h0q1 Y2 eY2 M3 eM3
  obtain ⟨k4, hf⟩ := hf
  refine gm_putFR (C := RX9) (T := TX9) (N := 7) (j := 5) hx hb hts inT_9 tyX9 tyX9_ok nmX9 hown hK hW hS k4 (by decide) rfl (by decide) rfl (hts _ kw_223) rfl rfl hin rfl rfl rfl dX9_init_10 (fun H locs M5 eM5 hW hS => ?_)
  replace hf := hf M5 eM5
  refine lv_aload_n hx hb dX9_init_13 rfl (lv_at hl 0 rfl) ?_
  refine gm_new (ci := 10) hx hb hts inT_10 tyX10 tyX10_ok hown (hts _ kw_163) (hts _ kw_62) (hts _ kw_4) hK hW hS hA rfl (by decide) rfl def_10 (by show _ ≤ 54; omega) (by show _ ≤ 45633; omega) dX9_init_14 (fun q6 H Y7 M8 h0q6 eY7 eM8 hW hS => ?_)
  replace hf := hf q6 h0q6 Y7 eY7 M8 eM8
  refine lv_dup hx hb dX9_init_17 rfl ?_
  refine gm_ca (va_runIN (As := []) (rest := [.ref q6, .ref v0]) ⟨hx, hb, hml, hown, hts⟩ (m_X10_init l D cy tq _ Y7 _ _ _) ⟨va_cnB 0 hts (good_C kw_64) rfl rfl rfl hC.2.2.2.2.2.2.2.2.2.1 (hts _ kw_4) (by decide +kernel) ⟨Nat.le_of_ble_eq_true rfl, Nat.le_of_ble_eq_true rfl⟩, rfl, hts _ kw_63⟩ (gm_preS hK hW hC hS hA hf) rfl rfl hl.1 rfl (lv_room (Nat.le_of_ble_eq_true rfl)) dX9_init_18 ⟨by show _ ≤ 54; omega, by show _ ≤ 45633; omega⟩) hW hS hA (fun Y9 M10 H locs hW hS hf => ?_)
  obtain ⟨k11, hf⟩ := hf
  refine gm_putFR (C := RX9) (T := TX9) (N := 7) (j := 6) hx hb hts inT_9 tyX9 tyX9_ok nmX9 hown hK hW hS k11 (by decide) rfl (by decide) rfl (hts _ kw_224) rfl rfl hin rfl rfl rfl dX9_init_21 (fun H locs M12 eM12 hW hS => ?_)
  replace hf := hf M12 eM12
  refine lv_aload_n hx hb dX9_init_24 rfl (lv_at hl 0 rfl) ?_
  refine lv_aload_n hx hb dX9_init_25 rfl (lv_at hl 1 rfl) ?_
  refine gm_putFR (C := RX9) (T := TX9) (N := 7) (j := 0) hx hb hts inT_9 tyX9 tyX9_ok nmX9 hown hK hW hS k11 (by decide) rfl (by decide) rfl (hts _ kw_213) rfl rfl hin rfl rfl rfl dX9_init_26 (fun H locs M13 eM13 hW hS => ?_)
  replace hf := hf M13 eM13
  refine lv_aload_n hx hb dX9_init_29 rfl (lv_at hl 0 rfl) ?_
  refine lv_iload_n hx hb dX9_init_30 rfl (lv_at hl 3 rfl) ?_
  refine gm_putFI (C := RX9) (T := TX9) (N := 7) (j := 2) hx hb hts inT_9 tyX9 tyX9_ok nmX9 hown hK hW hS k11 (by decide) rfl (by decide) rfl (hts _ kw_219) rfl rfl hin rfl rfl rfl dX9_init_31 (fun H locs M14 eM14 hW hS => ?_)
  replace hf := hf M14 eM14
  refine lv_aload_n hx hb dX9_init_34 rfl (lv_at hl 0 rfl) ?_
  refine lv_iload_n hx hb dX9_init_35 rfl (lv_at hl 2 rfl) ?_
  refine lv_iconst (v := 1) hx hb dX9_init_36 (by decide +kernel) ?_
  refine lv_iadd hx hb dX9_init_37 ?_
  obtain ⟨h15, h16, hf⟩ := hf
  refine gm_newr hx hb hown (hts _ kw_164) hC.2.2.2.2.2.2.2.2.2.2.2.2.2.2.2.2.2.2.2.2.2 hK hW hS hA (n := _) 9 h15 rfl h16 (by decide) (by show _ ≤ 54; omega) (by show _ ≤ 45633; omega) dX9_init_38 (fun q17 H Y18 M19 h0q17 eY18 eM19 hW hS => ?_)
  replace hf := hf q17 h0q17 Y18 eY18 M19 eM19
  obtain ⟨k20, hf⟩ := hf
  refine gm_putFR (C := RX9) (T := TX9) (N := 7) (j := 1) hx hb hts inT_9 tyX9 tyX9_ok nmX9 hown hK hW hS k20 (by decide) rfl (by decide) rfl (hts _ kw_216) rfl rfl hin rfl rfl rfl dX9_init_41 (fun H locs M21 eM21 hW hS => ?_)
  replace hf := hf M21 eM21
  refine lv_iconst (v := 0) hx hb dX9_init_44 (by decide +kernel) ?_
  refine lv_istore (lv' := [(4, .int 0), (0, .ref v0), (1, .ref v1), (2, .int v2), (3, .int v3)]) hx hb dX9_init_45 hl (by decide) rfl (fun ls hl => ?_)
  obtain ⟨n47, hn47, hf⟩ := hf
  have lp47 : ∀ (n47 : Nat) (x22 : Int32) (Y23 : Ly) (M24 : Mm) (H : Heap) (locs : List Loc) (ls : Array Slot), n47 ≤ 10 → lv_has ls 5 [(0, .ref v0), (1, .ref v1), (2, .int v2), (4, .int x22)] → Wd D cy A Y23 M24 H → va_S A s.heap H locs → LOOP3 (L_X9_init_47 Y18 v0 v1 v2 Kn) n47 x22 Y23 M24 → W p l e rm_X9_init s m args below meth c H locs (3 + (10 - n47) * 5) (517 + (10 - n47) * 4486) (MQ below (QA D cy A Kn) args s 54 45633 A) (F0 m 47 ls []) := by
    intro n47
    induction n47 with
    | zero => intro x22 Y23 M24 H locs ls hn47 hl hW hS hf; exact hf.elim
    | succ n47 ih47 =>
      intro x22 Y23 M24 H locs ls hn47 hl hW hS hf
      replace hf : L_X9_init_47 Y18 v0 v1 v2 Kn x22 Y23 M24 (LOOP3 (L_X9_init_47 Y18 v0 v1 v2 Kn) n47) := hf
      unfold L_X9_init_47 at hf
      refine lv_iload hx hb dX9_init_47 (lv_at hl 3 rfl) ?_
      refine lv_iload_n hx hb dX9_init_49 rfl (lv_at hl 2 rfl) ?_
      refine lv_icmp_gt (tgt := 85) hx hb dX9_init_50 (by decide) (fun c25 => ?_) (fun c25 => ?_)
      · replace hf := hf.1 c25
        refine lv_aload_n hx hb dX9_init_85 rfl (lv_at hl 0 rfl) ?_
        refine lv_iload_n hx hb dX9_init_86 rfl (lv_at hl 2 rfl) ?_
        refine lv_iconst (v := 2) hx hb dX9_init_87 (by decide +kernel) ?_
        refine lv_iadd hx hb dX9_init_88 ?_
        obtain ⟨k26, hf⟩ := hf
        refine gm_putFI (C := RX9) (T := TX9) (N := 7) (j := 3) hx hb hts inT_9 tyX9 tyX9_ok nmX9 hown hK hW hS k26 (by decide) rfl (by decide) rfl (hts _ kw_221) rfl rfl hin rfl rfl rfl dX9_init_89 (fun H locs M27 eM27 hW hS => ?_)
        replace hf := hf M27 eM27
        refine lv_aload_n hx hb dX9_init_92 rfl (lv_at hl 0 rfl) ?_
        refine lv_aload_n hx hb dX9_init_93 rfl (lv_at hl 1 rfl) ?_
        obtain ⟨k30, hf⟩ := hf
        refine gm_ci (va_runV (As := []) (rest := [.ref v0]) ⟨hx, hb, hml, hown, hts⟩ (m_X3_blocks l D cy tq _ Y23 _ _ _) (cwV 0 hts (good_V kw_209 kw_210 kw_211 kw_7 kw_212) rfl rfl rfl (by decide +kernel) ⟨Nat.le_of_ble_eq_true rfl, Nat.le_of_ble_eq_true rfl⟩) (gm_preV hK hW hC hS hA k30 (by decide) (q := (RX3, TX3, 4)) rfl rfl hf) rfl rfl hl.1 rfl (lv_room (Nat.le_of_ble_eq_true rfl)) dX9_init_94 ⟨by show _ ≤ 54; omega, by show _ ≤ 45633; omega⟩) hW hS hA (fun r29 M28 H locs hW hS hf => ?_)
        obtain ⟨h31, h32, hf⟩ := hf
        refine gm_newb hx hb (hts _ kw_55) hK hW hS hA (n := _) 256 h31 rfl h32 (by decide) (by show _ ≤ 54; omega) (by show _ ≤ 45633; omega) dX9_init_97 (fun q33 H Y34 M35 h0q33 eY34 eM35 hW hS => ?_)
        replace hf := hf q33 h0q33 Y34 eY34 M35 eM35
        obtain ⟨k36, hf⟩ := hf
        refine gm_putFR (C := RX9) (T := TX9) (N := 7) (j := 4) hx hb hts inT_9 tyX9 tyX9_ok nmX9 hown hK hW hS k36 (by decide) rfl (by decide) rfl (hts _ kw_222) rfl rfl hin rfl rfl rfl dX9_init_99 (fun H locs M37 eM37 hW hS => ?_)
        replace hf := hf M37 eM37
        refine W.widen (k := 54) (n := 45633) (by omega) (by omega) ?_
        exact gm_vretA hx hb hr hlocks hW hS hf dX9_init_102
      · replace hf := hf.2 c25
        refine lv_aload_n hx hb dX9_init_53 rfl (lv_at hl 0 rfl) ?_
        obtain ⟨k38, hf⟩ := hf
        obtain ⟨b39, hb39, hf⟩ := hf
        refine gm_getR (C := RX9) (T := TX9) (N := 7) (j := 1) hx hb hts inT_9 hown hK hW k38 (by decide) rfl (by decide) rfl (hts _ kw_216) rfl dX9_init_54 hb39 ?_
        refine lv_iload hx hb dX9_init_57 (lv_at hl 3 rfl) ?_
        refine gm_new (ci := 8) hx hb hts inT_8 tyX8 tyX8_ok hown (hts _ kw_164) (hts _ kw_165) (hts _ kw_9) hK hW hS hA rfl (by decide) rfl def_8 (by show _ ≤ 54; omega) (by show _ ≤ 45633; omega) dX9_init_59 (fun q40 H Y41 M42 h0q40 eY41 eM42 hW hS => ?_)
        replace hf := hf q40 h0q40 Y41 eY41 M42 eM42
        refine lv_dup hx hb dX9_init_62 rfl ?_
        refine lv_iconst (v := 1) hx hb dX9_init_63 (by decide +kernel) ?_
        refine lv_iload hx hb dX9_init_64 (lv_at hl 3 rfl) ?_
        refine lv_iadd hx hb dX9_init_66 ?_
        refine lv_aload_n hx hb dX9_init_67 rfl (lv_at hl 1 rfl) ?_
        obtain ⟨k43, hf⟩ := hf
        obtain ⟨b44, hb44, hf⟩ := hf
        refine gm_getR (C := RX3) (T := TX3) (N := 4) (j := 0) hx hb hts inT_3 hown hK hW k43 (by decide) rfl (by decide) rfl (hts _ kw_144) rfl dX9_init_68 hb44 ?_
        obtain ⟨k45, hf⟩ := hf
        refine gm_alen hx hb hK hW (by rw [k45]; decide) dX9_init_71 ?_
        refine lv_bipush (v := 61) hx hb dX9_init_72 (by decide +kernel) ?_
        refine lv_idiv hx hb dX9_init_74 (by decide) ?_
        refine gm_ca (va_runI (As := [.int (1 + x22), .int ((nI (yN Y41 b44)) / 61)]) (rest := [.ref q40, .int x22, .ref b39]) ⟨hx, hb, hml, hown, hts⟩ (m_X8_init l D cy tq _ Y41 _ _ _ _ _) (cwI 2 hts (good_C kw_168) rfl rfl rfl (hts _ kw_9) (hts _ kw_166) (hts _ kw_167) rfl (by decide +kernel) ⟨Nat.le_of_ble_eq_true rfl, Nat.le_of_ble_eq_true rfl⟩) (gm_preS hK hW hC hS hA hf) rfl rfl hl.1 rfl (lv_room (Nat.le_of_ble_eq_true rfl)) dX9_init_75 ⟨by show _ ≤ 54; omega, by show _ ≤ 45633; omega⟩) hW hS hA (fun Y47 M48 H locs hW hS hf => ?_)
        obtain ⟨k49, hf⟩ := hf
        obtain ⟨k50, hf⟩ := hf
        obtain ⟨h51, hf⟩ := hf
        refine gm_aast hx hb hK hW hS k49 k50 h51 dX9_init_78 (fun H locs M52 eM52 hW hS => ?_)
        replace hf := hf M52 eM52
        obtain ⟨x53, ex53⟩ : ∃ y : Int32, y = x22 + 1 := ⟨_, rfl⟩
        replace hf := hf x53 ex53
        refine lv_iinc (v := x53) (lv' := [(4, .int x53), (0, .ref v0), (1, .ref v1), (2, .int v2)]) hx hb dX9_init_79 hl (k := 3) rfl (by rw [ex53]; rfl) (by decide) rfl (fun ls hl => ?_)
        refine lv_goto (tgt := 47) hx hb dX9_init_82 (by decide) ?_
        refine W.widen (k := 3 + (10 - n47) * 5) (n := 517 + (10 - n47) * 4486) (by omega) (by omega) ?_
        exact ih47 _ _ _ _ _ _ (by omega) (lv_sub hl [1, 2, 3, 0] rfl) hW hS hf
  refine W.widen (k := 3 + (10 - n47) * 5) (n := 517 + (10 - n47) * 4486) (by omega) (by omega) ?_
  exact lp47 n47 _ _ _ _ _ _ hn47 (lv_sub hl [1, 2, 3, 0] rfl) hW hS hf

abbrev rm_X9_isSentAgain : Room := { frames := 5, cells := 0, slots := 0, locals := 149 }
def f_X9_isSentAgain_62 (Y : Ly) (Kn : Int32 → Mm → Prop) (y9 : Int32) (M10 : Mm) : Prop :=
  bz y9 ∧ Kn y9 M10
def f_X9_isSentAgain_61 (Y : Ly) (Kn : Int32 → Mm → Prop) (M11 : Mm) : Prop :=
  f_X9_isSentAgain_62 Y Kn 0 M11
def f_X9_isSentAgain (Y : Ly) (v0 : Nat) (v1 : Nat) (v2 : Int32) (M : Mm) (Kn : Int32 → Mm → Prop) : Prop :=
  f_X0_epochOf Y v1 0 M (fun r2 M1 => (yK Y v0 = 9 ∧ (∃ b4 : Nat, mR M1 v0 0 = some b4 ∧ (yK Y b4 = 3 ∧ (∃ b6 : Nat, mR M1 b4 0 = some b6 ∧ (f_X0_epochOf Y b6 v2 M1 (fun r8 M7 => ((¬ r2 = r8 → (f_X9_isSentAgain_61 Y Kn M7)) ∧ (r2 = r8 → (f_X0_sequenceOf Y v1 0 M7 (fun r14 M13 => (∃ b15 : Nat, mR M13 v0 0 = some b15 ∧ (yK Y b15 = 3 ∧ (∃ b17 : Nat, mR M13 b15 0 = some b17 ∧ (f_X0_sequenceOf Y b17 v2 M13 (fun r19 M18 => ((¬ r14 = r19 → (f_X9_isSentAgain_61 Y Kn M18)) ∧ (r14 = r19 → (f_X0_lastOf Y v1 0 M18 (fun r22 M21 => (∃ b23 : Nat, mR M21 v0 0 = some b23 ∧ (yK Y b23 = 3 ∧ (∃ b25 : Nat, mR M21 b23 0 = some b25 ∧ (f_X0_lastOf Y b25 v2 M21 (fun r27 M26 => ((¬ r22 = r27 → (f_X9_isSentAgain_61 Y Kn M26)) ∧ (r22 = r27 → (f_X9_isSentAgain_62 Y Kn 1 M26))))))))))))))))))))))))))))
set_option maxHeartbeats 4000000 in
set_option maxRecDepth 100000 in
theorem m_X9_isSentAgain (l : Launch) (D : va_G) (cy : Cy) (tq sz : Nat) (Y : Ly) (v0 : Nat) (v1 : Nat) (v2 : Int32) (M : Mm) (Kn : Int32 → Mm → Prop) : Met l yX9_isSentAgain (Cond.code yX9_isSentAgain cX9_isSentAgain 3 (some .boolean) :: TT) rm_X9_isSentAgain (PcG D cy tq [.ref v0, .ref v1, .int v2] sz Y M (f_X9_isSentAgain Y v0 v1 v2 M Kn)) (va_Qi Kn (BG D cy (Am Y sz) Y) (Am Y sz)) 0 0 (Am Y sz) := by
  refine Met.ofW (cc := cX9_isSentAgain) (maxL := 3) (ret := (some .boolean)) (by decide) rfl ?_
  intro p e s m args below meth c s₁ B hml hv
  obtain ⟨hargs, hsz, hW, hK, hC, hf⟩ := hv
  subst hsz
  have hx := B.exec
  have hb := B.bytes
  have hr := B.returns
  have hts : ∀ w ∈ TT, w.before args s = true := fun w h => atoms_spec (ws := Cond.code yX9_isSentAgain cX9_isSentAgain 3 (some .boolean) :: TT) B.pre w (List.mem_cons_of_mem _ h)
  have hown : s.vm.findClass RX9 = some m.cls := findClass_of_methodNamed B.named
  have hlocks := B.notSynchronized
  replace hW := Wd_self (sz := s.heap.size) hW
  generalize hAe : Am Y s.heap.size = A at hW hC ⊢
  have hA : ∀ q : Nat, s.heap.size ≤ q → A q := fun q h => by rw [← hAe]; exact Or.inr h
  clear hAe
  have hS : va_S A s.heap s.heap [] := va_S.rf
  obtain ⟨ls, hE, hl⟩ := gm_entry m [.ref v0, .ref v1, .int v2] (n := 3) hargs (Nat.le_of_ble_eq_true rfl)
  rw [hE]
  have hl : lv_has ls 3 [(0, .ref v0), (1, .ref v1), (2, .int v2)] := hl
  show W p l e rm_X9_isSentAgain s m args below meth c s.heap [] 0 0 (MQ below (va_Qi Kn (BG D cy A Y) A) args s 0 0 A) (F0 m 0 ls [])
  unfold f_X9_isSentAgain at hf
  refine lv_aload_n hx hb dX9_isSentAgain_0 rfl (lv_at hl 1 rfl) ?_
  refine lv_iconst (v := 0) hx hb dX9_isSentAgain_1 (by decide +kernel) ?_
  refine gm_ci (va_runS (As := [.ref v1, .int 0]) (rest := []) ⟨hx, hb, hml, hown, hts⟩ (m_X0_epochOf l D cy tq _ Y _ _ _ _) (va_cwS 2 hts (good_S kw_877 kw_803 kw_20 kw_804) rfl rfl rfl (by decide +kernel) ⟨Nat.le_of_ble_eq_true rfl, Nat.le_of_ble_eq_true rfl⟩) (gm_preS hK hW hC hS hA hf) rfl rfl hl.1 rfl (lv_room (Nat.le_of_ble_eq_true rfl)) dX9_isSentAgain_2 ⟨Nat.le_of_ble_eq_true rfl, Nat.le_of_ble_eq_true rfl⟩) hW hS hA (fun r2 M1 H locs hW hS hf => ?_)
  refine lv_aload_n hx hb dX9_isSentAgain_5 rfl (lv_at hl 0 rfl) ?_
  obtain ⟨k3, hf⟩ := hf
  obtain ⟨b4, hb4, hf⟩ := hf
  refine gm_getR (C := RX9) (T := TX9) (N := 7) (j := 0) hx hb hts inT_9 hown hK hW k3 (by decide) rfl (by decide) rfl (hts _ kw_213) rfl dX9_isSentAgain_6 hb4 ?_
  obtain ⟨k5, hf⟩ := hf
  obtain ⟨b6, hb6, hf⟩ := hf
  refine gm_getR (C := RX3) (T := TX3) (N := 4) (j := 0) hx hb hts inT_3 hown hK hW k5 (by decide) rfl (by decide) rfl (hts _ kw_144) rfl dX9_isSentAgain_9 hb6 ?_
  refine lv_iload_n hx hb dX9_isSentAgain_12 rfl (lv_at hl 2 rfl) ?_
  refine gm_ci (va_runS (As := [.ref b6, .int v2]) (rest := [.int r2]) ⟨hx, hb, hml, hown, hts⟩ (m_X0_epochOf l D cy tq _ Y _ _ _ _) (va_cwS 2 hts (good_S kw_877 kw_803 kw_20 kw_804) rfl rfl rfl (by decide +kernel) ⟨Nat.le_of_ble_eq_true rfl, Nat.le_of_ble_eq_true rfl⟩) (gm_preS hK hW hC hS hA hf) rfl rfl hl.1 rfl (lv_room (Nat.le_of_ble_eq_true rfl)) dX9_isSentAgain_13 ⟨Nat.le_of_ble_eq_true rfl, Nat.le_of_ble_eq_true rfl⟩) hW hS hA (fun r8 M7 H locs hW hS hf => ?_)
  have j62 : ∀ (y9 : Int32) (M10 : Mm) (H : Heap) (locs : List Loc) (ls : Array Slot), lv_has ls 3 [] → Wd D cy A Y M10 H → va_S A s.heap H locs → f_X9_isSentAgain_62 Y Kn y9 M10 → W p l e rm_X9_isSentAgain s m args below meth c H locs 0 0 (MQ below (va_Qi Kn (BG D cy A Y) A) args s 0 0 A) (F0 m 62 ls [.int y9]) := by
    intro y9 M10 H locs ls hl hW hS hf
    unfold f_X9_isSentAgain_62 at hf
    exact gm_zret hx hb hr hlocks hW hS hf.1 hf.2 dX9_isSentAgain_62
  have j61 : ∀ (M11 : Mm) (H : Heap) (locs : List Loc) (ls : Array Slot), lv_has ls 3 [] → Wd D cy A Y M11 H → va_S A s.heap H locs → f_X9_isSentAgain_61 Y Kn M11 → W p l e rm_X9_isSentAgain s m args below meth c H locs 0 0 (MQ below (va_Qi Kn (BG D cy A Y) A) args s 0 0 A) (F0 m 61 ls []) := by
    intro M11 H locs ls hl hW hS hf
    unfold f_X9_isSentAgain_61 at hf
    refine lv_iconst (v := 0) hx hb dX9_isSentAgain_61 (by decide +kernel) ?_
    exact j62 _ _ _ _ _ (lv_sub hl [] rfl) hW hS hf
  refine lv_icmp_ne (tgt := 61) hx hb dX9_isSentAgain_16 (by decide) (fun c12 => ?_) (fun c12 => ?_)
  · replace hf := hf.1 c12
    exact j61 _ _ _ _ (lv_sub hl [] rfl) hW hS hf
  · replace hf := hf.2 c12
    refine lv_aload_n hx hb dX9_isSentAgain_19 rfl (lv_at hl 1 rfl) ?_
    refine lv_iconst (v := 0) hx hb dX9_isSentAgain_20 (by decide +kernel) ?_
    refine gm_ci (va_runS (As := [.ref v1, .int 0]) (rest := []) ⟨hx, hb, hml, hown, hts⟩ (m_X0_sequenceOf l D cy tq _ Y _ _ _ _) (va_cwS 2 hts (good_S kw_882 kw_809 kw_20 kw_810) rfl rfl rfl (by decide +kernel) ⟨Nat.le_of_ble_eq_true rfl, Nat.le_of_ble_eq_true rfl⟩) (gm_preS hK hW hC hS hA hf) rfl rfl hl.1 rfl (lv_room (Nat.le_of_ble_eq_true rfl)) dX9_isSentAgain_21 ⟨Nat.le_of_ble_eq_true rfl, Nat.le_of_ble_eq_true rfl⟩) hW hS hA (fun r14 M13 H locs hW hS hf => ?_)
    refine lv_aload_n hx hb dX9_isSentAgain_24 rfl (lv_at hl 0 rfl) ?_
    obtain ⟨b15, hb15, hf⟩ := hf
    refine gm_getR (C := RX9) (T := TX9) (N := 7) (j := 0) hx hb hts inT_9 hown hK hW k3 (by decide) rfl (by decide) rfl (hts _ kw_213) rfl dX9_isSentAgain_25 hb15 ?_
    obtain ⟨k16, hf⟩ := hf
    obtain ⟨b17, hb17, hf⟩ := hf
    refine gm_getR (C := RX3) (T := TX3) (N := 4) (j := 0) hx hb hts inT_3 hown hK hW k16 (by decide) rfl (by decide) rfl (hts _ kw_144) rfl dX9_isSentAgain_28 hb17 ?_
    refine lv_iload_n hx hb dX9_isSentAgain_31 rfl (lv_at hl 2 rfl) ?_
    refine gm_ci (va_runS (As := [.ref b17, .int v2]) (rest := [.int r14]) ⟨hx, hb, hml, hown, hts⟩ (m_X0_sequenceOf l D cy tq _ Y _ _ _ _) (va_cwS 2 hts (good_S kw_882 kw_809 kw_20 kw_810) rfl rfl rfl (by decide +kernel) ⟨Nat.le_of_ble_eq_true rfl, Nat.le_of_ble_eq_true rfl⟩) (gm_preS hK hW hC hS hA hf) rfl rfl hl.1 rfl (lv_room (Nat.le_of_ble_eq_true rfl)) dX9_isSentAgain_32 ⟨Nat.le_of_ble_eq_true rfl, Nat.le_of_ble_eq_true rfl⟩) hW hS hA (fun r19 M18 H locs hW hS hf => ?_)
    refine lv_icmp_ne (tgt := 61) hx hb dX9_isSentAgain_35 (by decide) (fun c20 => ?_) (fun c20 => ?_)
    · replace hf := hf.1 c20
      exact j61 _ _ _ _ (lv_sub hl [] rfl) hW hS hf
    · replace hf := hf.2 c20
      refine lv_aload_n hx hb dX9_isSentAgain_38 rfl (lv_at hl 1 rfl) ?_
      refine lv_iconst (v := 0) hx hb dX9_isSentAgain_39 (by decide +kernel) ?_
      refine gm_ci (va_runS (As := [.ref v1, .int 0]) (rest := []) ⟨hx, hb, hml, hown, hts⟩ (m_X0_lastOf l D cy tq _ Y _ _ _ _) (va_cwS 2 hts (good_S kw_883 kw_792 kw_20 kw_793) rfl rfl rfl (by decide +kernel) ⟨Nat.le_of_ble_eq_true rfl, Nat.le_of_ble_eq_true rfl⟩) (gm_preS hK hW hC hS hA hf) rfl rfl hl.1 rfl (lv_room (Nat.le_of_ble_eq_true rfl)) dX9_isSentAgain_40 ⟨Nat.le_of_ble_eq_true rfl, Nat.le_of_ble_eq_true rfl⟩) hW hS hA (fun r22 M21 H locs hW hS hf => ?_)
      refine lv_aload_n hx hb dX9_isSentAgain_43 rfl (lv_at hl 0 rfl) ?_
      obtain ⟨b23, hb23, hf⟩ := hf
      refine gm_getR (C := RX9) (T := TX9) (N := 7) (j := 0) hx hb hts inT_9 hown hK hW k3 (by decide) rfl (by decide) rfl (hts _ kw_213) rfl dX9_isSentAgain_44 hb23 ?_
      obtain ⟨k24, hf⟩ := hf
      obtain ⟨b25, hb25, hf⟩ := hf
      refine gm_getR (C := RX3) (T := TX3) (N := 4) (j := 0) hx hb hts inT_3 hown hK hW k24 (by decide) rfl (by decide) rfl (hts _ kw_144) rfl dX9_isSentAgain_47 hb25 ?_
      refine lv_iload_n hx hb dX9_isSentAgain_50 rfl (lv_at hl 2 rfl) ?_
      refine gm_ci (va_runS (As := [.ref b25, .int v2]) (rest := [.int r22]) ⟨hx, hb, hml, hown, hts⟩ (m_X0_lastOf l D cy tq _ Y _ _ _ _) (va_cwS 2 hts (good_S kw_883 kw_792 kw_20 kw_793) rfl rfl rfl (by decide +kernel) ⟨Nat.le_of_ble_eq_true rfl, Nat.le_of_ble_eq_true rfl⟩) (gm_preS hK hW hC hS hA hf) rfl rfl hl.1 rfl (lv_room (Nat.le_of_ble_eq_true rfl)) dX9_isSentAgain_51 ⟨Nat.le_of_ble_eq_true rfl, Nat.le_of_ble_eq_true rfl⟩) hW hS hA (fun r27 M26 H locs hW hS hf => ?_)
      refine lv_icmp_ne (tgt := 61) hx hb dX9_isSentAgain_54 (by decide) (fun c28 => ?_) (fun c28 => ?_)
      · replace hf := hf.1 c28
        exact j61 _ _ _ _ (lv_sub hl [] rfl) hW hS hf
      · replace hf := hf.2 c28
        refine lv_iconst (v := 1) hx hb dX9_isSentAgain_57 (by decide +kernel) ?_
        refine lv_goto (tgt := 62) hx hb dX9_isSentAgain_58 (by decide) ?_
        exact j62 _ _ _ _ _ (lv_sub hl [] rfl) hW hS hf

abbrev rm_X9_answerAsKnown : Room := { frames := 6, cells := 0, slots := 0, locals := 175 }
def f_X9_answerAsKnown_155 (Y : Ly) (Kn : Int64 → Mm → Prop) (M20 : Mm) (y22 : Int64) : Prop :=
  Kn y22 M20
def f_X9_answerAsKnown_134 (Y : Ly) (v2 : Nat) (Kn : Int64 → Mm → Prop) (y18 : Int32) (M19 : Mm) : Prop :=
  f_X0_sequenceOf Y v2 0 M19 (fun r21 M20 => ((¬ r21 = y18 → (f_X9_answerAsKnown_155 Y Kn M20 (-7))) ∧ (r21 = y18 → (f_X9_answerAsKnown_155 Y Kn M20 (-1)))))
def f_X9_answerAsKnown_105 (Y : Ly) (x15 : Int32) (again60 : Int32 → Mm → Prop) (M32 : Mm) : Prop :=
  ∀ x33 : Int32, x33 = x15 + 1 → (again60 x33 M32)
def L_X9_answerAsKnown_60 (Y : Ly) (v0 : Nat) (v1 : Nat) (v2 : Nat) (Kn : Int64 → Mm → Prop) (r2 : Int64) (r4 : Int32) (r8 : Int32) (r13 : Int32) (x15 : Int32) (M16 : Mm) (again60 : Int32 → Mm → Prop) : Prop :=
  (5 ≤ x15 → ((¬ r8 = r13 → (f_X9_answerAsKnown_134 Y v2 Kn 0 M16)) ∧ (r8 = r13 → (∃ b25 : Nat, mR M16 v0 0 = some b25 ∧ (yK Y b25 = 3 ∧ (∃ b27 : Nat, mR M16 b25 0 = some b27 ∧ (f_X0_nextSequenceOf Y b27 r4 M16 (fun r29 M28 => (f_X9_answerAsKnown_134 Y v2 Kn r29 M28))))))))) ∧ (¬ (5 ≤ x15) → (f_X9_knownAt Y v0 v1 r2 x15 M16 (fun r31 M30 => ((r31 = (-1) → (f_X9_answerAsKnown_105 Y x15 again60 M30)) ∧ (¬ (r31 = (-1)) → (f_X9_isSentAgain Y v0 v2 r31 M30 (fun r36 M35 => ((r36 = 0 → (f_X9_answerAsKnown_105 Y x15 again60 M35)) ∧ (¬ (r36 = 0) → (∃ b38 : Nat, mR M35 v0 0 = some b38 ∧ (yK Y b38 = 3 ∧ (∃ b40 : Nat, mR M35 b38 0 = some b40 ∧ (f_X0_baseOf Y b40 r31 M35 (fun r42 M41 => (Kn r42 M41)))))))))))))))
def f_X9_answerAsKnown (Y : Ly) (v0 : Nat) (v1 : Nat) (v2 : Nat) (M : Mm) (Kn : Int64 → Mm → Prop) : Prop :=
  f_X0_producerOf Y v2 0 M (fun r2 M1 => (yK Y v0 = 9 ∧ (f_X9_knownAt Y v0 v1 r2 0 M1 (fun r4 M3 => ((¬ r4 = (-1) → (f_X0_epochOf Y v2 0 M3 (fun r8 M7 => (∃ b9 : Nat, mR M7 v0 0 = some b9 ∧ (yK Y b9 = 3 ∧ (∃ b11 : Nat, mR M7 b9 0 = some b11 ∧ (f_X0_epochOf Y b11 r4 M7 (fun r13 M12 => ((r13 ≤ r8 → (∃ n, LOOP2 (L_X9_answerAsKnown_60 Y v0 v1 v2 Kn r2 r4 r8 r13) n 0 M12)) ∧ (¬ (r13 ≤ r8) → (Kn (-6) M12))))))))))) ∧ (r4 = (-1) → (Kn (-1) M3)))))))
set_option maxHeartbeats 4000000 in
set_option maxRecDepth 100000 in
theorem m_X9_answerAsKnown (l : Launch) (D : va_G) (cy : Cy) (tq sz : Nat) (Y : Ly) (v0 : Nat) (v1 : Nat) (v2 : Nat) (M : Mm) (Kn : Int64 → Mm → Prop) : Met l yX9_answerAsKnown (Cond.code yX9_answerAsKnown cX9_answerAsKnown 10 (some .long) :: TT) rm_X9_answerAsKnown (PcG D cy tq [.ref v0, .ref v1, .ref v2] sz Y M (f_X9_answerAsKnown Y v0 v1 v2 M Kn)) (va_Ql Kn (BG D cy (Am Y sz) Y) (Am Y sz)) 0 0 (Am Y sz) := by
  refine Met.ofW (cc := cX9_answerAsKnown) (maxL := 10) (ret := (some .long)) (by decide) rfl ?_
  intro p e s m args below meth c s₁ B hml hv
  obtain ⟨hargs, hsz, hW, hK, hC, hf⟩ := hv
  subst hsz
  have hx := B.exec
  have hb := B.bytes
  have hr := B.returns
  have hts : ∀ w ∈ TT, w.before args s = true := fun w h => atoms_spec (ws := Cond.code yX9_answerAsKnown cX9_answerAsKnown 10 (some .long) :: TT) B.pre w (List.mem_cons_of_mem _ h)
  have hown : s.vm.findClass RX9 = some m.cls := findClass_of_methodNamed B.named
  have hlocks := B.notSynchronized
  replace hW := Wd_self (sz := s.heap.size) hW
  generalize hAe : Am Y s.heap.size = A at hW hC ⊢
  have hA : ∀ q : Nat, s.heap.size ≤ q → A q := fun q h => by rw [← hAe]; exact Or.inr h
  clear hAe
  have hS : va_S A s.heap s.heap [] := va_S.rf
  obtain ⟨ls, hE, hl⟩ := gm_entry m [.ref v0, .ref v1, .ref v2] (n := 10) hargs (Nat.le_of_ble_eq_true rfl)
  rw [hE]
  have hl : lv_has ls 10 [(0, .ref v0), (1, .ref v1), (2, .ref v2)] := hl
  show W p l e rm_X9_answerAsKnown s m args below meth c s.heap [] 0 0 (MQ below (va_Ql Kn (BG D cy A Y) A) args s 0 0 A) (F0 m 0 ls [])
  unfold f_X9_answerAsKnown at hf
  refine lv_aload_n hx hb dX9_answerAsKnown_0 rfl (lv_at hl 2 rfl) ?_
  refine lv_iconst (v := 0) hx hb dX9_answerAsKnown_1 (by decide +kernel) ?_
  refine gm_cl (va_runS (As := [.ref v2, .int 0]) (rest := []) ⟨hx, hb, hml, hown, hts⟩ (m_X0_producerOf l D cy tq _ Y _ _ _ _) (va_cwS 2 hts (good_S kw_871 kw_785 kw_20 kw_786) rfl rfl rfl (by decide +kernel) ⟨Nat.le_of_ble_eq_true rfl, Nat.le_of_ble_eq_true rfl⟩) (gm_preS hK hW hC hS hA hf) rfl rfl hl.1 rfl (lv_room (Nat.le_of_ble_eq_true rfl)) dX9_answerAsKnown_2 ⟨Nat.le_of_ble_eq_true rfl, Nat.le_of_ble_eq_true rfl⟩) hW hS hA (fun r2 M1 H locs hW hS hf => ?_)
  refine lv_lstore_n (lv' := [(3, .long r2), (0, .ref v0), (1, .ref v1), (2, .ref v2)]) hx hb dX9_answerAsKnown_5 rfl hl (by decide) rfl (fun ls hl => ?_)
  refine lv_aload_n hx hb dX9_answerAsKnown_6 rfl (lv_at hl 1 rfl) ?_
  refine lv_aload_n hx hb dX9_answerAsKnown_7 rfl (lv_at hl 2 rfl) ?_
  refine lv_lload_n hx hb dX9_answerAsKnown_8 rfl (lv_at hl 0 rfl) ?_
  refine lv_iconst (v := 0) hx hb dX9_answerAsKnown_9 (by decide +kernel) ?_
  obtain ⟨k5, hf⟩ := hf
  refine gm_ci (va_runV (As := [.ref v1, .long r2, .int 0]) (rest := []) ⟨hx, hb, hml, hown, hts⟩ (m_X9_knownAt l D cy tq _ Y _ _ _ _ _ _) (cwV 3 hts (good_V kw_872 kw_873 kw_874 kw_8 kw_875) rfl rfl rfl (by decide +kernel) ⟨Nat.le_of_ble_eq_true rfl, Nat.le_of_ble_eq_true rfl⟩) (gm_preV hK hW hC hS hA k5 (by decide) (q := (RX9, TX9, 7)) rfl rfl hf) rfl rfl hl.1 rfl (lv_room (Nat.le_of_ble_eq_true rfl)) dX9_answerAsKnown_10 ⟨Nat.le_of_ble_eq_true rfl, Nat.le_of_ble_eq_true rfl⟩) hW hS hA (fun r4 M3 H locs hW hS hf => ?_)
  refine lv_istore (lv' := [(5, .int r4), (3, .long r2), (0, .ref v0), (1, .ref v1), (2, .ref v2)]) hx hb dX9_answerAsKnown_13 hl (by decide) rfl (fun ls hl => ?_)
  refine lv_iload hx hb dX9_answerAsKnown_15 (lv_at hl 0 rfl) ?_
  refine lv_iconst (v := -1) hx hb dX9_answerAsKnown_17 (by decide +kernel) ?_
  refine lv_icmp_ne (tgt := 25) hx hb dX9_answerAsKnown_18 (by decide) (fun c6 => ?_) (fun c6 => ?_)
  · replace hf := hf.1 c6
    refine lv_aload_n hx hb dX9_answerAsKnown_25 rfl (lv_at hl 4 rfl) ?_
    refine lv_iconst (v := 0) hx hb dX9_answerAsKnown_26 (by decide +kernel) ?_
    refine gm_ci (va_runS (As := [.ref v2, .int 0]) (rest := []) ⟨hx, hb, hml, hown, hts⟩ (m_X0_epochOf l D cy tq _ Y _ _ _ _) (va_cwS 2 hts (good_S kw_877 kw_803 kw_20 kw_804) rfl rfl rfl (by decide +kernel) ⟨Nat.le_of_ble_eq_true rfl, Nat.le_of_ble_eq_true rfl⟩) (gm_preS hK hW hC hS hA hf) rfl rfl hl.1 rfl (lv_room (Nat.le_of_ble_eq_true rfl)) dX9_answerAsKnown_27 ⟨Nat.le_of_ble_eq_true rfl, Nat.le_of_ble_eq_true rfl⟩) hW hS hA (fun r8 M7 H locs hW hS hf => ?_)
    refine lv_istore (lv' := [(6, .int r8), (5, .int r4), (3, .long r2), (0, .ref v0), (1, .ref v1), (2, .ref v2)]) hx hb dX9_answerAsKnown_30 hl (by decide) rfl (fun ls hl => ?_)
    refine lv_aload_n hx hb dX9_answerAsKnown_32 rfl (lv_at hl 3 rfl) ?_
    obtain ⟨b9, hb9, hf⟩ := hf
    refine gm_getR (C := RX9) (T := TX9) (N := 7) (j := 0) hx hb hts inT_9 hown hK hW k5 (by decide) rfl (by decide) rfl (hts _ kw_213) rfl dX9_answerAsKnown_33 hb9 ?_
    obtain ⟨k10, hf⟩ := hf
    obtain ⟨b11, hb11, hf⟩ := hf
    refine gm_getR (C := RX3) (T := TX3) (N := 4) (j := 0) hx hb hts inT_3 hown hK hW k10 (by decide) rfl (by decide) rfl (hts _ kw_144) rfl dX9_answerAsKnown_36 hb11 ?_
    refine lv_iload hx hb dX9_answerAsKnown_39 (lv_at hl 1 rfl) ?_
    refine gm_ci (va_runS (As := [.ref b11, .int r4]) (rest := []) ⟨hx, hb, hml, hown, hts⟩ (m_X0_epochOf l D cy tq _ Y _ _ _ _) (va_cwS 2 hts (good_S kw_877 kw_803 kw_20 kw_804) rfl rfl rfl (by decide +kernel) ⟨Nat.le_of_ble_eq_true rfl, Nat.le_of_ble_eq_true rfl⟩) (gm_preS hK hW hC hS hA hf) rfl rfl hl.1 rfl (lv_room (Nat.le_of_ble_eq_true rfl)) dX9_answerAsKnown_41 ⟨Nat.le_of_ble_eq_true rfl, Nat.le_of_ble_eq_true rfl⟩) hW hS hA (fun r13 M12 H locs hW hS hf => ?_)
    refine lv_istore (lv' := [(7, .int r13), (6, .int r8), (5, .int r4), (3, .long r2), (0, .ref v0), (1, .ref v1), (2, .ref v2)]) hx hb dX9_answerAsKnown_44 hl (by decide) rfl (fun ls hl => ?_)
    refine lv_iload hx hb dX9_answerAsKnown_46 (lv_at hl 1 rfl) ?_
    refine lv_iload hx hb dX9_answerAsKnown_48 (lv_at hl 0 rfl) ?_
    refine lv_icmp_ge (tgt := 57) hx hb dX9_answerAsKnown_50 (by decide) (fun c14 => ?_) (fun c14 => ?_)
    · replace hf := hf.1 c14
      refine lv_iconst (v := 0) hx hb dX9_answerAsKnown_57 (by decide +kernel) ?_
      refine lv_istore (lv' := [(8, .int 0), (7, .int r13), (6, .int r8), (5, .int r4), (3, .long r2), (0, .ref v0), (1, .ref v1), (2, .ref v2)]) hx hb dX9_answerAsKnown_58 hl (by decide) rfl (fun ls hl => ?_)
      obtain ⟨n60, hf⟩ := hf
      have lp60 : ∀ (n60 : Nat) (x15 : Int32) (M16 : Mm) (H : Heap) (locs : List Loc) (ls : Array Slot), lv_has ls 10 [(0, .ref v0), (1, .ref v1), (2, .ref v2), (3, .long r2), (5, .int r4), (6, .int r8), (7, .int r13), (8, .int x15)] → Wd D cy A Y M16 H → va_S A s.heap H locs → LOOP2 (L_X9_answerAsKnown_60 Y v0 v1 v2 Kn r2 r4 r8 r13) n60 x15 M16 → W p l e rm_X9_answerAsKnown s m args below meth c H locs 0 0 (MQ below (va_Ql Kn (BG D cy A Y) A) args s 0 0 A) (F0 m 60 ls []) := by
        intro n60
        induction n60 with
        | zero => intro x15 M16 H locs ls hl hW hS hf; exact hf.elim
        | succ n60 ih60 =>
          intro x15 M16 H locs ls hl hW hS hf
          replace hf : L_X9_answerAsKnown_60 Y v0 v1 v2 Kn r2 r4 r8 r13 x15 M16 (LOOP2 (L_X9_answerAsKnown_60 Y v0 v1 v2 Kn r2 r4 r8 r13) n60) := hf
          unfold L_X9_answerAsKnown_60 at hf
          refine lv_iload hx hb dX9_answerAsKnown_60 (lv_at hl 7 rfl) ?_
          refine lv_iconst (v := 5) hx hb dX9_answerAsKnown_62 (by decide +kernel) ?_
          refine lv_icmp_ge (tgt := 111) hx hb dX9_answerAsKnown_63 (by decide) (fun c17 => ?_) (fun c17 => ?_)
          · replace hf := hf.1 c17
            refine lv_iload hx hb dX9_answerAsKnown_111 (lv_at hl 5 rfl) ?_
            refine lv_iload hx hb dX9_answerAsKnown_113 (lv_at hl 6 rfl) ?_
            have j134 : ∀ (y18 : Int32) (M19 : Mm) (H : Heap) (locs : List Loc) (ls : Array Slot), lv_has ls 10 [(2, .ref v2)] → Wd D cy A Y M19 H → va_S A s.heap H locs → f_X9_answerAsKnown_134 Y v2 Kn y18 M19 → W p l e rm_X9_answerAsKnown s m args below meth c H locs 0 0 (MQ below (va_Ql Kn (BG D cy A Y) A) args s 0 0 A) (F0 m 134 ls [.int y18]) := by
              intro y18 M19 H locs ls hl hW hS hf
              unfold f_X9_answerAsKnown_134 at hf
              refine lv_istore (lv' := [(8, .int y18), (2, .ref v2)]) hx hb dX9_answerAsKnown_134 hl (by decide) rfl (fun ls hl => ?_)
              refine lv_aload_n hx hb dX9_answerAsKnown_136 rfl (lv_at hl 1 rfl) ?_
              refine lv_iconst (v := 0) hx hb dX9_answerAsKnown_137 (by decide +kernel) ?_
              refine gm_ci (va_runS (As := [.ref v2, .int 0]) (rest := []) ⟨hx, hb, hml, hown, hts⟩ (m_X0_sequenceOf l D cy tq _ Y _ _ _ _) (va_cwS 2 hts (good_S kw_882 kw_809 kw_20 kw_810) rfl rfl rfl (by decide +kernel) ⟨Nat.le_of_ble_eq_true rfl, Nat.le_of_ble_eq_true rfl⟩) (gm_preS hK hW hC hS hA hf) rfl rfl hl.1 rfl (lv_room (Nat.le_of_ble_eq_true rfl)) dX9_answerAsKnown_138 ⟨Nat.le_of_ble_eq_true rfl, Nat.le_of_ble_eq_true rfl⟩) hW hS hA (fun r21 M20 H locs hW hS hf => ?_)
              refine lv_iload hx hb dX9_answerAsKnown_141 (lv_at hl 0 rfl) ?_
              have j155 : ∀ (y22 : Int64) (H : Heap) (locs : List Loc) (ls : Array Slot), lv_has ls 10 [] → Wd D cy A Y M20 H → va_S A s.heap H locs → f_X9_answerAsKnown_155 Y Kn M20 y22 → W p l e rm_X9_answerAsKnown s m args below meth c H locs 0 0 (MQ below (va_Ql Kn (BG D cy A Y) A) args s 0 0 A) (F0 m 155 ls [.long y22]) := by
                intro y22 H locs ls hl hW hS hf
                unfold f_X9_answerAsKnown_155 at hf
                exact gm_lret hx hb hr hlocks hW hS hf dX9_answerAsKnown_155
              refine lv_icmp_ne (tgt := 152) hx hb dX9_answerAsKnown_143 (by decide) (fun c23 => ?_) (fun c23 => ?_)
              · replace hf := hf.1 c23
                refine lv_ldc2 (v := -7) hx hb hown (hts _ kw_891) dX9_answerAsKnown_152 ?_
                exact j155 _ _ _ _ (lv_sub hl [] rfl) hW hS hf
              · replace hf := hf.2 c23
                refine lv_ldc2 (v := -1) hx hb hown (hts _ kw_876) dX9_answerAsKnown_146 ?_
                refine lv_goto (tgt := 155) hx hb dX9_answerAsKnown_149 (by decide) ?_
                exact j155 _ _ _ _ (lv_sub hl [] rfl) hW hS hf
            refine lv_icmp_ne (tgt := 133) hx hb dX9_answerAsKnown_115 (by decide) (fun c24 => ?_) (fun c24 => ?_)
            · replace hf := hf.1 c24
              refine lv_iconst (v := 0) hx hb dX9_answerAsKnown_133 (by decide +kernel) ?_
              exact j134 _ _ _ _ _ (lv_sub hl [2] rfl) hW hS hf
            · replace hf := hf.2 c24
              refine lv_aload_n hx hb dX9_answerAsKnown_118 rfl (lv_at hl 0 rfl) ?_
              obtain ⟨b25, hb25, hf⟩ := hf
              refine gm_getR (C := RX9) (T := TX9) (N := 7) (j := 0) hx hb hts inT_9 hown hK hW k5 (by decide) rfl (by decide) rfl (hts _ kw_213) rfl dX9_answerAsKnown_119 hb25 ?_
              obtain ⟨k26, hf⟩ := hf
              obtain ⟨b27, hb27, hf⟩ := hf
              refine gm_getR (C := RX3) (T := TX3) (N := 4) (j := 0) hx hb hts inT_3 hown hK hW k26 (by decide) rfl (by decide) rfl (hts _ kw_144) rfl dX9_answerAsKnown_122 hb27 ?_
              refine lv_iload hx hb dX9_answerAsKnown_125 (lv_at hl 4 rfl) ?_
              refine gm_ci (va_runS (As := [.ref b27, .int r4]) (rest := []) ⟨hx, hb, hml, hown, hts⟩ (m_X0_nextSequenceOf l D cy tq _ Y _ _ _ _) (va_cwS 2 hts (good_S kw_885 kw_886 kw_20 kw_887) rfl rfl rfl (by decide +kernel) ⟨Nat.le_of_ble_eq_true rfl, Nat.le_of_ble_eq_true rfl⟩) (gm_preS hK hW hC hS hA hf) rfl rfl hl.1 rfl (lv_room (Nat.le_of_ble_eq_true rfl)) dX9_answerAsKnown_127 ⟨Nat.le_of_ble_eq_true rfl, Nat.le_of_ble_eq_true rfl⟩) hW hS hA (fun r29 M28 H locs hW hS hf => ?_)
              refine lv_goto (tgt := 134) hx hb dX9_answerAsKnown_130 (by decide) ?_
              exact j134 _ _ _ _ _ (lv_sub hl [2] rfl) hW hS hf
          · replace hf := hf.2 c17
            refine lv_aload_n hx hb dX9_answerAsKnown_66 rfl (lv_at hl 0 rfl) ?_
            refine lv_aload_n hx hb dX9_answerAsKnown_67 rfl (lv_at hl 1 rfl) ?_
            refine lv_lload_n hx hb dX9_answerAsKnown_68 rfl (lv_at hl 3 rfl) ?_
            refine lv_iload hx hb dX9_answerAsKnown_69 (lv_at hl 7 rfl) ?_
            refine gm_ci (va_runV (As := [.ref v1, .long r2, .int x15]) (rest := []) ⟨hx, hb, hml, hown, hts⟩ (m_X9_knownAt l D cy tq _ Y _ _ _ _ _ _) (cwV 3 hts (good_V kw_872 kw_873 kw_874 kw_8 kw_875) rfl rfl rfl (by decide +kernel) ⟨Nat.le_of_ble_eq_true rfl, Nat.le_of_ble_eq_true rfl⟩) (gm_preV hK hW hC hS hA k5 (by decide) (q := (RX9, TX9, 7)) rfl rfl hf) rfl rfl hl.1 rfl (lv_room (Nat.le_of_ble_eq_true rfl)) dX9_answerAsKnown_71 ⟨Nat.le_of_ble_eq_true rfl, Nat.le_of_ble_eq_true rfl⟩) hW hS hA (fun r31 M30 H locs hW hS hf => ?_)
            refine lv_istore (lv' := [(9, .int r31), (0, .ref v0), (1, .ref v1), (2, .ref v2), (3, .long r2), (5, .int r4), (6, .int r8), (7, .int r13), (8, .int x15)]) hx hb dX9_answerAsKnown_74 hl (by decide) rfl (fun ls hl => ?_)
            refine lv_iload hx hb dX9_answerAsKnown_76 (lv_at hl 0 rfl) ?_
            refine lv_iconst (v := -1) hx hb dX9_answerAsKnown_78 (by decide +kernel) ?_
            have j105 : ∀ (M32 : Mm) (H : Heap) (locs : List Loc) (ls : Array Slot), lv_has ls 10 [(0, .ref v0), (1, .ref v1), (2, .ref v2), (3, .long r2), (5, .int r4), (6, .int r8), (7, .int r13), (8, .int x15)] → Wd D cy A Y M32 H → va_S A s.heap H locs → f_X9_answerAsKnown_105 Y x15 (LOOP2 (L_X9_answerAsKnown_60 Y v0 v1 v2 Kn r2 r4 r8 r13) n60) M32 → W p l e rm_X9_answerAsKnown s m args below meth c H locs 0 0 (MQ below (va_Ql Kn (BG D cy A Y) A) args s 0 0 A) (F0 m 105 ls []) := by
              intro M32 H locs ls hl hW hS hf
              unfold f_X9_answerAsKnown_105 at hf
              obtain ⟨x33, ex33⟩ : ∃ y : Int32, y = x15 + 1 := ⟨_, rfl⟩
              replace hf := hf x33 ex33
              refine lv_iinc (v := x33) (lv' := [(8, .int x33), (0, .ref v0), (1, .ref v1), (2, .ref v2), (3, .long r2), (5, .int r4), (6, .int r8), (7, .int r13)]) hx hb dX9_answerAsKnown_105 hl (k := 7) rfl (by rw [ex33]; rfl) (by decide) rfl (fun ls hl => ?_)
              refine lv_goto (tgt := 60) hx hb dX9_answerAsKnown_108 (by decide) ?_
              exact ih60 _ _ _ _ _ (lv_sub hl [1, 2, 3, 4, 5, 6, 7, 0] rfl) hW hS hf
            refine lv_icmp_eq (tgt := 105) hx hb dX9_answerAsKnown_79 (by decide) (fun c34 => ?_) (fun c34 => ?_)
            · replace hf := hf.1 c34
              exact j105 _ _ _ _ (lv_sub hl [1, 2, 3, 4, 5, 6, 7, 8] rfl) hW hS hf
            · replace hf := hf.2 c34
              refine lv_aload_n hx hb dX9_answerAsKnown_82 rfl (lv_at hl 1 rfl) ?_
              refine lv_aload_n hx hb dX9_answerAsKnown_83 rfl (lv_at hl 3 rfl) ?_
              refine lv_iload hx hb dX9_answerAsKnown_84 (lv_at hl 0 rfl) ?_
              refine gm_ci (va_runV (As := [.ref v2, .int r31]) (rest := []) ⟨hx, hb, hml, hown, hts⟩ (m_X9_isSentAgain l D cy tq _ Y _ _ _ _ _) (cwV 2 hts (good_V kw_879 kw_880 kw_1797 kw_8 kw_881) rfl rfl rfl (by decide +kernel) ⟨Nat.le_of_ble_eq_true rfl, Nat.le_of_ble_eq_true rfl⟩) (gm_preV hK hW hC hS hA k5 (by decide) (q := (RX9, TX9, 7)) rfl rfl hf) rfl rfl hl.1 rfl (lv_room (Nat.le_of_ble_eq_true rfl)) dX9_answerAsKnown_86 ⟨Nat.le_of_ble_eq_true rfl, Nat.le_of_ble_eq_true rfl⟩) hW hS hA (fun r36 M35 H locs hW hS hf => ?_)
              refine lv_if_eq (tgt := 105) hx hb dX9_answerAsKnown_89 (by decide) (fun c37 => ?_) (fun c37 => ?_)
              · replace hf := hf.1 c37
                exact j105 _ _ _ _ (lv_sub hl [1, 2, 3, 4, 5, 6, 7, 8] rfl) hW hS hf
              · replace hf := hf.2 c37
                refine lv_aload_n hx hb dX9_answerAsKnown_92 rfl (lv_at hl 1 rfl) ?_
                obtain ⟨b38, hb38, hf⟩ := hf
                refine gm_getR (C := RX9) (T := TX9) (N := 7) (j := 0) hx hb hts inT_9 hown hK hW k5 (by decide) rfl (by decide) rfl (hts _ kw_213) rfl dX9_answerAsKnown_93 hb38 ?_
                obtain ⟨k39, hf⟩ := hf
                obtain ⟨b40, hb40, hf⟩ := hf
                refine gm_getR (C := RX3) (T := TX3) (N := 4) (j := 0) hx hb hts inT_3 hown hK hW k39 (by decide) rfl (by decide) rfl (hts _ kw_144) rfl dX9_answerAsKnown_96 hb40 ?_
                refine lv_iload hx hb dX9_answerAsKnown_99 (lv_at hl 0 rfl) ?_
                refine gm_cl (va_runS (As := [.ref b40, .int r31]) (rest := []) ⟨hx, hb, hml, hown, hts⟩ (m_X0_baseOf l D cy tq _ Y _ _ _ _) (va_cwS 2 hts (good_S kw_884 kw_788 kw_20 kw_789) rfl rfl rfl (by decide +kernel) ⟨Nat.le_of_ble_eq_true rfl, Nat.le_of_ble_eq_true rfl⟩) (gm_preS hK hW hC hS hA hf) rfl rfl hl.1 rfl (lv_room (Nat.le_of_ble_eq_true rfl)) dX9_answerAsKnown_101 ⟨Nat.le_of_ble_eq_true rfl, Nat.le_of_ble_eq_true rfl⟩) hW hS hA (fun r42 M41 H locs hW hS hf => ?_)
                exact gm_lret hx hb hr hlocks hW hS hf dX9_answerAsKnown_104
      exact lp60 n60 _ _ _ _ _ (lv_sub hl [5, 6, 7, 4, 3, 2, 1, 0] rfl) hW hS hf
    · replace hf := hf.2 c14
      refine lv_ldc2 (v := -6) hx hb hown (hts _ kw_878) dX9_answerAsKnown_53 ?_
      exact gm_lret hx hb hr hlocks hW hS hf dX9_answerAsKnown_56
  · replace hf := hf.2 c6
    refine lv_ldc2 (v := -1) hx hb hown (hts _ kw_876) dX9_answerAsKnown_21 ?_
    exact gm_lret hx hb hr hlocks hW hS hf dX9_answerAsKnown_24

abbrev rm_X9_accept : Room := { frames := 7, cells := 0, slots := 0, locals := 204 }
def f_X9_accept_45 (Y : Ly) (Kn : Int64 → Mm → Prop) (y5 : Int64) (M6 : Mm) : Prop :=
  Kn y5 M6
def f_X9_accept (Y : Ly) (v0 : Nat) (v1 : Nat) (v2 : Nat) (v3 : Int32) (M : Mm) (Kn : Int64 → Mm → Prop) : Prop :=
  yK Y v0 = 9 ∧ ((v3 ≤ ((mI M v0 2) * 1024) → (f_X9_answerAsKnown Y v0 v1 v2 M (fun r4 M3 => ((¬ r4 = (-1) → (f_X9_accept_45 Y Kn r4 M3)) ∧ (r4 = (-1) → (f_X9_append Y v0 v1 v2 v3 M3 (fun r9 M8 => (f_X9_accept_45 Y Kn r9 M8)))))))) ∧ (¬ (v3 ≤ ((mI M v0 2) * 1024)) → (Kn (-5) M)))
set_option maxHeartbeats 4000000 in
set_option maxRecDepth 100000 in
theorem m_X9_accept (l : Launch) (D : va_G) (cy : Cy) (tq sz : Nat) (Y : Ly) (v0 : Nat) (v1 : Nat) (v2 : Nat) (v3 : Int32) (M : Mm) (Kn : Int64 → Mm → Prop) : Met l yX9_accept (Cond.code yX9_accept cX9_accept 6 (some .long) :: TT) rm_X9_accept (PcG D cy tq [.ref v0, .ref v1, .ref v2, .int v3] sz Y M (f_X9_accept Y v0 v1 v2 v3 M Kn)) (va_Ql Kn (BG D cy (Am Y sz) Y) (Am Y sz)) 0 0 (Am Y sz) := by
  refine Met.ofW (cc := cX9_accept) (maxL := 6) (ret := (some .long)) (by decide) rfl ?_
  intro p e s m args below meth c s₁ B hml hv
  obtain ⟨hargs, hsz, hW, hK, hC, hf⟩ := hv
  subst hsz
  have hx := B.exec
  have hb := B.bytes
  have hr := B.returns
  have hts : ∀ w ∈ TT, w.before args s = true := fun w h => atoms_spec (ws := Cond.code yX9_accept cX9_accept 6 (some .long) :: TT) B.pre w (List.mem_cons_of_mem _ h)
  have hown : s.vm.findClass RX9 = some m.cls := findClass_of_methodNamed B.named
  have hlocks := B.notSynchronized
  replace hW := Wd_self (sz := s.heap.size) hW
  generalize hAe : Am Y s.heap.size = A at hW hC ⊢
  have hA : ∀ q : Nat, s.heap.size ≤ q → A q := fun q h => by rw [← hAe]; exact Or.inr h
  clear hAe
  have hS : va_S A s.heap s.heap [] := va_S.rf
  obtain ⟨ls, hE, hl⟩ := gm_entry m [.ref v0, .ref v1, .ref v2, .int v3] (n := 6) hargs (Nat.le_of_ble_eq_true rfl)
  rw [hE]
  have hl : lv_has ls 6 [(0, .ref v0), (1, .ref v1), (2, .ref v2), (3, .int v3)] := hl
  show W p l e rm_X9_accept s m args below meth c s.heap [] 0 0 (MQ below (va_Ql Kn (BG D cy A Y) A) args s 0 0 A) (F0 m 0 ls [])
  unfold f_X9_accept at hf
  refine lv_iload_n hx hb dX9_accept_0 rfl (lv_at hl 3 rfl) ?_
  refine lv_aload_n hx hb dX9_accept_1 rfl (lv_at hl 0 rfl) ?_
  obtain ⟨k1, hf⟩ := hf
  refine gm_getI (C := RX9) (T := TX9) (N := 7) (j := 2) hx hb hts inT_9 hown hK hW k1 (by decide) rfl (by decide) rfl (hts _ kw_219) rfl dX9_accept_2 ?_
  refine lv_sipush (v := 1024) hx hb dX9_accept_5 (by decide +kernel) ?_
  refine lv_imul hx hb dX9_accept_8 ?_
  refine lv_icmp_le (tgt := 16) hx hb dX9_accept_9 (by decide) (fun c2 => ?_) (fun c2 => ?_)
  · replace hf := hf.1 c2
    refine lv_aload_n hx hb dX9_accept_16 rfl (lv_at hl 0 rfl) ?_
    refine lv_aload_n hx hb dX9_accept_17 rfl (lv_at hl 1 rfl) ?_
    refine lv_aload_n hx hb dX9_accept_18 rfl (lv_at hl 2 rfl) ?_
    refine gm_cl (va_runV (As := [.ref v1, .ref v2]) (rest := []) ⟨hx, hb, hml, hown, hts⟩ (m_X9_answerAsKnown l D cy tq _ Y _ _ _ _ _) (cwV 2 hts (good_V kw_868 kw_869 kw_1796 kw_8 kw_870) rfl rfl rfl (by decide +kernel) ⟨Nat.le_of_ble_eq_true rfl, Nat.le_of_ble_eq_true rfl⟩) (gm_preV hK hW hC hS hA k1 (by decide) (q := (RX9, TX9, 7)) rfl rfl hf) rfl rfl hl.1 rfl (lv_room (Nat.le_of_ble_eq_true rfl)) dX9_accept_19 ⟨Nat.le_of_ble_eq_true rfl, Nat.le_of_ble_eq_true rfl⟩) hW hS hA (fun r4 M3 H locs hW hS hf => ?_)
    refine lv_lstore (lv' := [(4, .long r4), (0, .ref v0), (1, .ref v1), (2, .ref v2), (3, .int v3)]) hx hb dX9_accept_22 hl (by decide) rfl (fun ls hl => ?_)
    refine lv_lload hx hb dX9_accept_24 (lv_at hl 0 rfl) ?_
    refine lv_ldc2 (v := -1) hx hb hown (hts _ kw_876) dX9_accept_26 ?_
    refine W.lcmp hx hb dX9_accept_29 ?_
    have j45 : ∀ (y5 : Int64) (M6 : Mm) (H : Heap) (locs : List Loc) (ls : Array Slot), lv_has ls 6 [] → Wd D cy A Y M6 H → va_S A s.heap H locs → f_X9_accept_45 Y Kn y5 M6 → W p l e rm_X9_accept s m args below meth c H locs 0 0 (MQ below (va_Ql Kn (BG D cy A Y) A) args s 0 0 A) (F0 m 45 ls [.long y5]) := by
      intro y5 M6 H locs ls hl hW hS hf
      unfold f_X9_accept_45 at hf
      exact gm_lret hx hb hr hlocks hW hS hf dX9_accept_45
    refine lv_if_ne (tgt := 43) hx hb dX9_accept_30 (by decide) (fun c7 => ?_) (fun c7 => ?_)
    · replace hf := hf.1 ((not_congr lg_eq).mp c7)
      refine lv_lload hx hb dX9_accept_43 (lv_at hl 0 rfl) ?_
      exact j45 _ _ _ _ _ (lv_sub hl [] rfl) hW hS hf
    · replace hf := hf.2 (lg_eq.mp c7)
      refine lv_aload_n hx hb dX9_accept_33 rfl (lv_at hl 1 rfl) ?_
      refine lv_aload_n hx hb dX9_accept_34 rfl (lv_at hl 2 rfl) ?_
      refine lv_aload_n hx hb dX9_accept_35 rfl (lv_at hl 3 rfl) ?_
      refine lv_iload_n hx hb dX9_accept_36 rfl (lv_at hl 4 rfl) ?_
      refine gm_cl (va_runV (As := [.ref v1, .ref v2, .int v3]) (rest := []) ⟨hx, hb, hml, hown, hts⟩ (m_X9_append l D cy tq _ Y _ _ _ _ _ _) (cwV 3 hts (good_V kw_892 kw_893 kw_894 kw_8 kw_895) rfl rfl rfl (by decide +kernel) ⟨Nat.le_of_ble_eq_true rfl, Nat.le_of_ble_eq_true rfl⟩) (gm_preV hK hW hC hS hA k1 (by decide) (q := (RX9, TX9, 7)) rfl rfl hf) rfl rfl hl.1 rfl (lv_room (Nat.le_of_ble_eq_true rfl)) dX9_accept_37 ⟨Nat.le_of_ble_eq_true rfl, Nat.le_of_ble_eq_true rfl⟩) hW hS hA (fun r9 M8 H locs hW hS hf => ?_)
      refine lv_goto (tgt := 45) hx hb dX9_accept_40 (by decide) ?_
      exact j45 _ _ _ _ _ (lv_sub hl [] rfl) hW hS hf
  · replace hf := hf.2 c2
    refine lv_ldc2 (v := -5) hx hb hown (hts _ kw_867) dX9_accept_12 ?_
    exact gm_lret hx hb hr hlocks hW hS hf dX9_accept_15

abbrev rm_X9_knownCount : Room := { frames := 6, cells := 0, slots := 0, locals := 175 }
def f_X9_knownCount_27 (Y : Ly) (Kn : Int32 → Mm → Prop) (x1 : Int32) (M3 : Mm) : Prop :=
  Kn x1 M3
def L_X9_knownCount_3 (Y : Ly) (v0 : Nat) (v1 : Nat) (v2 : Int64) (Kn : Int32 → Mm → Prop) (x1 : Int32) (M2 : Mm) (again3 : Int32 → Mm → Prop) : Prop :=
  (5 ≤ x1 → (f_X9_knownCount_27 Y Kn x1 M2)) ∧ (¬ (5 ≤ x1) → (yK Y v0 = 9 ∧ (f_X9_knownAt Y v0 v1 v2 x1 M2 (fun r6 M5 => ((r6 = (-1) → (f_X9_knownCount_27 Y Kn x1 M5)) ∧ (¬ (r6 = (-1)) → (∀ x9 : Int32, x9 = x1 + 1 → (again3 x9 M5))))))))
def f_X9_knownCount (Y : Ly) (v0 : Nat) (v1 : Nat) (v2 : Int64) (M : Mm) (Kn : Int32 → Mm → Prop) : Prop :=
  ∃ n, LOOP2 (L_X9_knownCount_3 Y v0 v1 v2 Kn) n 0 M
set_option maxHeartbeats 4000000 in
set_option maxRecDepth 100000 in
theorem m_X9_knownCount (l : Launch) (D : va_G) (cy : Cy) (tq sz : Nat) (Y : Ly) (v0 : Nat) (v1 : Nat) (v2 : Int64) (M : Mm) (Kn : Int32 → Mm → Prop) : Met l yX9_knownCount (Cond.code yX9_knownCount cX9_knownCount 5 (some .int) :: TT) rm_X9_knownCount (PcG D cy tq [.ref v0, .ref v1, .long v2] sz Y M (f_X9_knownCount Y v0 v1 v2 M Kn)) (va_Qi Kn (BG D cy (Am Y sz) Y) (Am Y sz)) 0 0 (Am Y sz) := by
  refine Met.ofW (cc := cX9_knownCount) (maxL := 5) (ret := (some .int)) (by decide) rfl ?_
  intro p e s m args below meth c s₁ B hml hv
  obtain ⟨hargs, hsz, hW, hK, hC, hf⟩ := hv
  subst hsz
  have hx := B.exec
  have hb := B.bytes
  have hr := B.returns
  have hts : ∀ w ∈ TT, w.before args s = true := fun w h => atoms_spec (ws := Cond.code yX9_knownCount cX9_knownCount 5 (some .int) :: TT) B.pre w (List.mem_cons_of_mem _ h)
  have hown : s.vm.findClass RX9 = some m.cls := findClass_of_methodNamed B.named
  have hlocks := B.notSynchronized
  replace hW := Wd_self (sz := s.heap.size) hW
  generalize hAe : Am Y s.heap.size = A at hW hC ⊢
  have hA : ∀ q : Nat, s.heap.size ≤ q → A q := fun q h => by rw [← hAe]; exact Or.inr h
  clear hAe
  have hS : va_S A s.heap s.heap [] := va_S.rf
  obtain ⟨ls, hE, hl⟩ := gm_entry m [.ref v0, .ref v1, .long v2] (n := 5) hargs (Nat.le_of_ble_eq_true rfl)
  rw [hE]
  have hl : lv_has ls 5 [(0, .ref v0), (1, .ref v1), (2, .long v2)] := hl
  show W p l e rm_X9_knownCount s m args below meth c s.heap [] 0 0 (MQ below (va_Qi Kn (BG D cy A Y) A) args s 0 0 A) (F0 m 0 ls [])
  unfold f_X9_knownCount at hf
  refine lv_iconst (v := 0) hx hb dX9_knownCount_0 (by decide +kernel) ?_
  refine lv_istore (lv' := [(4, .int 0), (0, .ref v0), (1, .ref v1), (2, .long v2)]) hx hb dX9_knownCount_1 hl (by decide) rfl (fun ls hl => ?_)
  obtain ⟨n3, hf⟩ := hf
  have lp3 : ∀ (n3 : Nat) (x1 : Int32) (M2 : Mm) (H : Heap) (locs : List Loc) (ls : Array Slot), lv_has ls 5 [(0, .ref v0), (1, .ref v1), (2, .long v2), (4, .int x1)] → Wd D cy A Y M2 H → va_S A s.heap H locs → LOOP2 (L_X9_knownCount_3 Y v0 v1 v2 Kn) n3 x1 M2 → W p l e rm_X9_knownCount s m args below meth c H locs 0 0 (MQ below (va_Qi Kn (BG D cy A Y) A) args s 0 0 A) (F0 m 3 ls []) := by
    intro n3
    induction n3 with
    | zero => intro x1 M2 H locs ls hl hW hS hf; exact hf.elim
    | succ n3 ih3 =>
      intro x1 M2 H locs ls hl hW hS hf
      replace hf : L_X9_knownCount_3 Y v0 v1 v2 Kn x1 M2 (LOOP2 (L_X9_knownCount_3 Y v0 v1 v2 Kn) n3) := hf
      unfold L_X9_knownCount_3 at hf
      refine lv_iload hx hb dX9_knownCount_3 (lv_at hl 3 rfl) ?_
      refine lv_iconst (v := 5) hx hb dX9_knownCount_5 (by decide +kernel) ?_
      have j27 : ∀ (M3 : Mm) (H : Heap) (locs : List Loc) (ls : Array Slot), lv_has ls 5 [(4, .int x1)] → Wd D cy A Y M3 H → va_S A s.heap H locs → f_X9_knownCount_27 Y Kn x1 M3 → W p l e rm_X9_knownCount s m args below meth c H locs 0 0 (MQ below (va_Qi Kn (BG D cy A Y) A) args s 0 0 A) (F0 m 27 ls []) := by
        intro M3 H locs ls hl hW hS hf
        unfold f_X9_knownCount_27 at hf
        refine lv_iload hx hb dX9_knownCount_27 (lv_at hl 0 rfl) ?_
        exact gm_iret hx hb hr hlocks hW hS hf dX9_knownCount_29
      refine lv_icmp_ge (tgt := 27) hx hb dX9_knownCount_6 (by decide) (fun c4 => ?_) (fun c4 => ?_)
      · replace hf := hf.1 c4
        exact j27 _ _ _ _ (lv_sub hl [3] rfl) hW hS hf
      · replace hf := hf.2 c4
        refine lv_aload_n hx hb dX9_knownCount_9 rfl (lv_at hl 0 rfl) ?_
        refine lv_aload_n hx hb dX9_knownCount_10 rfl (lv_at hl 1 rfl) ?_
        refine lv_lload_n hx hb dX9_knownCount_11 rfl (lv_at hl 2 rfl) ?_
        refine lv_iload hx hb dX9_knownCount_12 (lv_at hl 3 rfl) ?_
        obtain ⟨k7, hf⟩ := hf
        refine gm_ci (va_runV (As := [.ref v1, .long v2, .int x1]) (rest := []) ⟨hx, hb, hml, hown, hts⟩ (m_X9_knownAt l D cy tq _ Y _ _ _ _ _ _) (cwV 3 hts (good_V kw_872 kw_873 kw_874 kw_8 kw_875) rfl rfl rfl (by decide +kernel) ⟨Nat.le_of_ble_eq_true rfl, Nat.le_of_ble_eq_true rfl⟩) (gm_preV hK hW hC hS hA k7 (by decide) (q := (RX9, TX9, 7)) rfl rfl hf) rfl rfl hl.1 rfl (lv_room (Nat.le_of_ble_eq_true rfl)) dX9_knownCount_14 ⟨Nat.le_of_ble_eq_true rfl, Nat.le_of_ble_eq_true rfl⟩) hW hS hA (fun r6 M5 H locs hW hS hf => ?_)
        refine lv_iconst (v := -1) hx hb dX9_knownCount_17 (by decide +kernel) ?_
        refine lv_icmp_eq (tgt := 27) hx hb dX9_knownCount_18 (by decide) (fun c8 => ?_) (fun c8 => ?_)
        · replace hf := hf.1 c8
          exact j27 _ _ _ _ (lv_sub hl [3] rfl) hW hS hf
        · replace hf := hf.2 c8
          obtain ⟨x9, ex9⟩ : ∃ y : Int32, y = x1 + 1 := ⟨_, rfl⟩
          replace hf := hf x9 ex9
          refine lv_iinc (v := x9) (lv' := [(4, .int x9), (0, .ref v0), (1, .ref v1), (2, .long v2)]) hx hb dX9_knownCount_21 hl (k := 3) rfl (by rw [ex9]; rfl) (by decide) rfl (fun ls hl => ?_)
          refine lv_goto (tgt := 3) hx hb dX9_knownCount_24 (by decide) ?_
          exact ih3 _ _ _ _ _ (lv_sub hl [1, 2, 3, 0] rfl) hW hS hf
  exact lp3 n3 _ _ _ _ _ (lv_sub hl [1, 2, 3, 0] rfl) hW hS hf

abbrev rm_X9_loadSegment : Room := { frames := 5, cells := 0, slots := 0, locals := 149 }
def f_X9_loadSegment_75 (Y : Ly) (Kn : Mm → Prop) (M7 : Mm) : Prop :=
  Kn M7
def L_X9_loadSegment_19 (Y : Ly) (v0 : Nat) (v1 : Nat) (v2 : Int32) (Kn : Mm → Prop) (x5 : Int32) (x6 : Int32) (M7 : Mm) (again19 : Int32 → Mm → Prop) : Prop :=
  (v2 ≤ x6 → (f_X9_loadSegment_75 Y Kn M7)) ∧ (¬ (v2 ≤ x6) → (∃ b9 : Nat, mR M7 v1 8 = some b9 ∧ (yK Y b9 = 101 ∧ (((nI (yN Y b9)) ≤ (mI M7 v1 7) → (f_X9_loadSegment_75 Y Kn M7)) ∧ (¬ ((nI (yN Y b9)) ≤ (mI M7 v1 7)) → (yK Y v0 = 9 ∧ (∃ b13 : Nat, mR M7 v0 0 = some b13 ∧ (yK Y b13 = 3 ∧ (∃ b15 : Nat, mR M7 b13 0 = some b15 ∧ (f_X0_sizeOf Y b15 (x5 + x6) M7 (fun r17 M16 => (∀ x18 : Int32, x18 = (if 61 < r17 then r17 else 61) → (f_X8_addBatch Y v1 x18 M16 (fun r20 M19 => (∀ x21 : Int32, x21 = x6 + x18 → (again19 x21 M19))))))))))))))))
def f_X9_loadSegment (Y : Ly) (v0 : Nat) (v1 : Nat) (v2 : Int32) (M : Mm) (Kn : Mm → Prop) : Prop :=
  yK Y v1 = 8 ∧ (∃ b2 : Nat, mR M v1 4 = some b2 ∧ (yK Y b2 = 101 ∧ (vp_in ((mI M v1 3) - 1) (yN Y b2) ∧ (∀ x5 : Int32, x5 = (mI M b2 ((mI M v1 3) - 1).toNatClampNeg) * 1024 → (∃ n, LOOP2 (L_X9_loadSegment_19 Y v0 v1 v2 Kn x5) n 0 M)))))
set_option maxHeartbeats 4000000 in
set_option maxRecDepth 100000 in
theorem m_X9_loadSegment (l : Launch) (D : va_G) (cy : Cy) (tq sz : Nat) (Y : Ly) (v0 : Nat) (v1 : Nat) (v2 : Int32) (M : Mm) (Kn : Mm → Prop) : Met l yX9_loadSegment (Cond.code yX9_loadSegment cX9_loadSegment 6 none :: TT) rm_X9_loadSegment (PcG D cy tq [.ref v0, .ref v1, .int v2] sz Y M (f_X9_loadSegment Y v0 v1 v2 M Kn)) (va_Qv Kn (BG D cy (Am Y sz) Y) (Am Y sz)) 0 0 (Am Y sz) := by
  refine Met.ofW (cc := cX9_loadSegment) (maxL := 6) (ret := none) (by decide) rfl ?_
  intro p e s m args below meth c s₁ B hml hv
  obtain ⟨hargs, hsz, hW, hK, hC, hf⟩ := hv
  subst hsz
  have hx := B.exec
  have hb := B.bytes
  have hr := B.returns
  have hts : ∀ w ∈ TT, w.before args s = true := fun w h => atoms_spec (ws := Cond.code yX9_loadSegment cX9_loadSegment 6 none :: TT) B.pre w (List.mem_cons_of_mem _ h)
  have hown : s.vm.findClass RX9 = some m.cls := findClass_of_methodNamed B.named
  have hlocks := B.notSynchronized
  replace hW := Wd_self (sz := s.heap.size) hW
  generalize hAe : Am Y s.heap.size = A at hW hC ⊢
  have hA : ∀ q : Nat, s.heap.size ≤ q → A q := fun q h => by rw [← hAe]; exact Or.inr h
  clear hAe
  have hS : va_S A s.heap s.heap [] := va_S.rf
  obtain ⟨ls, hE, hl⟩ := gm_entry m [.ref v0, .ref v1, .int v2] (n := 6) hargs (Nat.le_of_ble_eq_true rfl)
  rw [hE]
  have hl : lv_has ls 6 [(0, .ref v0), (1, .ref v1), (2, .int v2)] := hl
  show W p l e rm_X9_loadSegment s m args below meth c s.heap [] 0 0 (MQ below (va_Qv Kn (BG D cy A Y) A) args s 0 0 A) (F0 m 0 ls [])
  unfold f_X9_loadSegment at hf
  refine lv_aload_n hx hb dX9_loadSegment_0 rfl (lv_at hl 1 rfl) ?_
  obtain ⟨k1, hf⟩ := hf
  obtain ⟨b2, hb2, hf⟩ := hf
  refine gm_getR (C := RX8) (T := TX8) (N := 9) (j := 4) hx hb hts inT_8 hown hK hW k1 (by decide) rfl (by decide) rfl (hts _ kw_184) rfl dX9_loadSegment_1 hb2 ?_
  refine lv_aload_n hx hb dX9_loadSegment_4 rfl (lv_at hl 1 rfl) ?_
  refine gm_getI (C := RX8) (T := TX8) (N := 9) (j := 3) hx hb hts inT_8 hown hK hW k1 (by decide) rfl (by decide) rfl (hts _ kw_180) rfl dX9_loadSegment_5 ?_
  refine lv_iconst (v := 1) hx hb dX9_loadSegment_8 (by decide +kernel) ?_
  refine lv_isub hx hb dX9_loadSegment_9 ?_
  obtain ⟨k3, hf⟩ := hf
  obtain ⟨h4, hf⟩ := hf
  refine gm_iald hx hb hK hW k3 h4 dX9_loadSegment_10 ?_
  refine lv_sipush (v := 1024) hx hb dX9_loadSegment_11 (by decide +kernel) ?_
  refine lv_imul hx hb dX9_loadSegment_14 ?_
  refine lv_topi (fun x5 ex5 => ?_)
  replace hf := hf x5 ex5
  refine lv_istore_n (lv' := [(3, .int x5), (0, .ref v0), (1, .ref v1), (2, .int v2)]) hx hb dX9_loadSegment_15 rfl hl (by decide) rfl (fun ls hl => ?_)
  refine lv_iconst (v := 0) hx hb dX9_loadSegment_16 (by decide +kernel) ?_
  refine lv_istore (lv' := [(4, .int 0), (3, .int x5), (0, .ref v0), (1, .ref v1), (2, .int v2)]) hx hb dX9_loadSegment_17 hl (by decide) rfl (fun ls hl => ?_)
  obtain ⟨n19, hf⟩ := hf
  have lp19 : ∀ (n19 : Nat) (x6 : Int32) (M7 : Mm) (H : Heap) (locs : List Loc) (ls : Array Slot), lv_has ls 6 [(0, .ref v0), (1, .ref v1), (2, .int v2), (3, .int x5), (4, .int x6)] → Wd D cy A Y M7 H → va_S A s.heap H locs → LOOP2 (L_X9_loadSegment_19 Y v0 v1 v2 Kn x5) n19 x6 M7 → W p l e rm_X9_loadSegment s m args below meth c H locs 0 0 (MQ below (va_Qv Kn (BG D cy A Y) A) args s 0 0 A) (F0 m 19 ls []) := by
    intro n19
    induction n19 with
    | zero => intro x6 M7 H locs ls hl hW hS hf; exact hf.elim
    | succ n19 ih19 =>
      intro x6 M7 H locs ls hl hW hS hf
      replace hf : L_X9_loadSegment_19 Y v0 v1 v2 Kn x5 x6 M7 (LOOP2 (L_X9_loadSegment_19 Y v0 v1 v2 Kn x5) n19) := hf
      unfold L_X9_loadSegment_19 at hf
      refine lv_iload hx hb dX9_loadSegment_19 (lv_at hl 4 rfl) ?_
      refine lv_iload_n hx hb dX9_loadSegment_21 rfl (lv_at hl 2 rfl) ?_
      have j75 : ∀ (H : Heap) (locs : List Loc) (ls : Array Slot), lv_has ls 6 [] → Wd D cy A Y M7 H → va_S A s.heap H locs → f_X9_loadSegment_75 Y Kn M7  → W p l e rm_X9_loadSegment s m args below meth c H locs 0 0 (MQ below (va_Qv Kn (BG D cy A Y) A) args s 0 0 A) (F0 m 75 ls []) := by
        intro  H locs ls hl hW hS hf
        unfold f_X9_loadSegment_75 at hf
        exact gm_vret hx hb hr hlocks hW hS hf dX9_loadSegment_75
      refine lv_icmp_ge (tgt := 75) hx hb dX9_loadSegment_22 (by decide) (fun c8 => ?_) (fun c8 => ?_)
      · replace hf := hf.1 c8
        exact j75  _ _ _ (lv_sub hl [] rfl) hW hS hf
      · replace hf := hf.2 c8
        refine lv_aload_n hx hb dX9_loadSegment_25 rfl (lv_at hl 1 rfl) ?_
        refine gm_getI (C := RX8) (T := TX8) (N := 9) (j := 7) hx hb hts inT_8 hown hK hW k1 (by decide) rfl (by decide) rfl (hts _ kw_192) rfl dX9_loadSegment_26 ?_
        refine lv_aload_n hx hb dX9_loadSegment_29 rfl (lv_at hl 1 rfl) ?_
        obtain ⟨b9, hb9, hf⟩ := hf
        refine gm_getR (C := RX8) (T := TX8) (N := 9) (j := 8) hx hb hts inT_8 hown hK hW k1 (by decide) rfl (by decide) rfl (hts _ kw_197) rfl dX9_loadSegment_30 hb9 ?_
        obtain ⟨k10, hf⟩ := hf
        refine gm_alen hx hb hK hW (by rw [k10]; decide) dX9_loadSegment_33 ?_
        refine lv_icmp_ge (tgt := 75) hx hb dX9_loadSegment_34 (by decide) (fun c11 => ?_) (fun c11 => ?_)
        · replace hf := hf.1 c11
          exact j75  _ _ _ (lv_sub hl [] rfl) hW hS hf
        · replace hf := hf.2 c11
          refine lv_bipush (v := 61) hx hb dX9_loadSegment_37 (by decide +kernel) ?_
          refine lv_aload_n hx hb dX9_loadSegment_39 rfl (lv_at hl 0 rfl) ?_
          obtain ⟨k12, hf⟩ := hf
          obtain ⟨b13, hb13, hf⟩ := hf
          refine gm_getR (C := RX9) (T := TX9) (N := 7) (j := 0) hx hb hts inT_9 hown hK hW k12 (by decide) rfl (by decide) rfl (hts _ kw_213) rfl dX9_loadSegment_40 hb13 ?_
          obtain ⟨k14, hf⟩ := hf
          obtain ⟨b15, hb15, hf⟩ := hf
          refine gm_getR (C := RX3) (T := TX3) (N := 4) (j := 0) hx hb hts inT_3 hown hK hW k14 (by decide) rfl (by decide) rfl (hts _ kw_144) rfl dX9_loadSegment_43 hb15 ?_
          refine lv_iload_n hx hb dX9_loadSegment_46 rfl (lv_at hl 3 rfl) ?_
          refine lv_iload hx hb dX9_loadSegment_47 (lv_at hl 4 rfl) ?_
          refine lv_iadd hx hb dX9_loadSegment_49 ?_
          refine gm_ci (va_runS (As := [.ref b15, .int (x5 + x6)]) (rest := [.int 61]) ⟨hx, hb, hml, hown, hts⟩ (m_X0_sizeOf l D cy tq _ Y _ _ _ _) (va_cwS 2 hts (good_S kw_354 kw_355 kw_20 kw_356) rfl rfl rfl (by decide +kernel) ⟨Nat.le_of_ble_eq_true rfl, Nat.le_of_ble_eq_true rfl⟩) (gm_preS hK hW hC hS hA hf) rfl rfl hl.1 rfl (lv_room (Nat.le_of_ble_eq_true rfl)) dX9_loadSegment_50 ⟨Nat.le_of_ble_eq_true rfl, Nat.le_of_ble_eq_true rfl⟩) hW hS hA (fun r17 M16 H locs hW hS hf => ?_)
          refine va_mmax hx hb (by rw [hml]; exact hl.1.symm) hown (hts _ kw_358) (hts _ kw_134) (hts _ kw_6) (hts _ kmath_maxI) (Nat.le_of_ble_eq_true rfl) (Nat.le_of_ble_eq_true rfl) (Nat.zero_le _) (Nat.zero_le _) dX9_loadSegment_53 ?_
          refine lv_topi (fun x18 ex18 => ?_)
          replace hf := hf x18 ex18
          refine lv_istore (lv' := [(5, .int x18), (0, .ref v0), (1, .ref v1), (2, .int v2), (3, .int x5), (4, .int x6)]) hx hb dX9_loadSegment_56 hl (by decide) rfl (fun ls hl => ?_)
          refine lv_aload_n hx hb dX9_loadSegment_58 rfl (lv_at hl 2 rfl) ?_
          refine lv_iload hx hb dX9_loadSegment_59 (lv_at hl 0 rfl) ?_
          refine gm_ci (va_runV (As := [.int x18]) (rest := []) ⟨hx, hb, hml, hown, hts⟩ (m_X8_addBatch l D cy tq _ Y _ _ _ _) (cwV 1 hts (good_V kw_359 kw_360 kw_361 kw_9 kw_362) rfl rfl rfl (by decide +kernel) ⟨Nat.le_of_ble_eq_true rfl, Nat.le_of_ble_eq_true rfl⟩) (gm_preV hK hW hC hS hA k1 (by decide) (q := (RX8, TX8, 9)) rfl rfl hf) rfl rfl hl.1 rfl (lv_room (Nat.le_of_ble_eq_true rfl)) dX9_loadSegment_61 ⟨Nat.le_of_ble_eq_true rfl, Nat.le_of_ble_eq_true rfl⟩) hW hS hA (fun r20 M19 H locs hW hS hf => ?_)
          refine lv_pop hx hb dX9_loadSegment_64 rfl ?_
          refine lv_iload hx hb dX9_loadSegment_65 (lv_at hl 5 rfl) ?_
          refine lv_iload hx hb dX9_loadSegment_67 (lv_at hl 0 rfl) ?_
          refine lv_iadd hx hb dX9_loadSegment_69 ?_
          refine lv_topi (fun x21 ex21 => ?_)
          replace hf := hf x21 ex21
          refine lv_istore (lv' := [(4, .int x21), (5, .int x18), (0, .ref v0), (1, .ref v1), (2, .int v2), (3, .int x5)]) hx hb dX9_loadSegment_70 hl (by decide) rfl (fun ls hl => ?_)
          refine lv_goto (tgt := 19) hx hb dX9_loadSegment_72 (by decide) ?_
          exact ih19 _ _ _ _ _ (lv_sub hl [2, 3, 4, 5, 0] rfl) hW hS hf
  exact lp19 n19 _ _ _ _ _ (lv_sub hl [2, 3, 4, 1, 0] rfl) hW hS hf

abbrev rm_X9_loadTable : Room := { frames := 6, cells := 0, slots := 0, locals := 174 }
def L_X9_loadTable_75 (Y : Ly) (v0 : Nat) (v1 : Nat) (Kn : Mm → Prop) (x2 : Int32) (x22 : Int32) (x23 : Int32) (M24 : Mm) (again75 : Int32 → Mm → Prop) : Prop :=
  (x22 ≤ x23 → (Kn M24)) ∧ (¬ (x22 ≤ x23) → (∃ b26 : Nat, mR M24 v0 0 = some b26 ∧ (yK Y b26 = 3 ∧ (∃ b28 : Nat, mR M24 b26 0 = some b28 ∧ (f_X1_signed Y b28 ((x2 + 20) + (8 * x23)) 4 M24 (fun r30 M29 => (f_X8_addSegment Y v1 r30.toInt32 M29 (fun M31 => (∃ b32 : Nat, mR M31 v0 0 = some b32 ∧ (yK Y b32 = 3 ∧ (∃ b34 : Nat, mR M31 b32 0 = some b34 ∧ (f_X1_signed Y b34 ((x2 + 24) + (8 * x23)) 4 M31 (fun r36 M35 => (f_X9_loadSegment Y v0 v1 r36.toInt32 M35 (fun M37 => (∀ x38 : Int32, x38 = x23 + 1 → (again75 x38 M37)))))))))))))))))
def f_X9_loadTable (Y : Ly) (v0 : Nat) (v1 : Nat) (M : Mm) (Kn : Mm → Prop) : Prop :=
  yK Y v1 = 8 ∧ (∀ x2 : Int32, x2 = (mI M v1 0) * 1024 → (f_X8_clear Y v1 M (fun M3 => (yK Y v0 = 9 ∧ (∃ b5 : Nat, mR M3 v0 0 = some b5 ∧ (yK Y b5 = 3 ∧ (∃ b7 : Nat, mR M3 b5 0 = some b7 ∧ (f_X1_signed Y b7 x2 8 M3 (fun r9 M8 => (∀ M10 : Mm, M10 = sJ M8 v1 (m1 (mJ M8 v1) 1 r9) → (∃ b11 : Nat, mR M10 v0 0 = some b11 ∧ (yK Y b11 = 3 ∧ (∃ b13 : Nat, mR M10 b11 0 = some b13 ∧ (f_X1_signed Y b13 (x2 + 8) 8 M10 (fun r15 M14 => (∀ M16 : Mm, M16 = sJ M14 v1 (m1 (mJ M14 v1) 2 r15) → (∃ b17 : Nat, mR M16 v0 0 = some b17 ∧ (yK Y b17 = 3 ∧ (∃ b19 : Nat, mR M16 b17 0 = some b19 ∧ (f_X1_signed Y b19 (x2 + 16) 4 M16 (fun r21 M20 => (∀ x22 : Int32, x22 = (if 60 < r21.toInt32 then 60 else r21.toInt32) → (∃ n, LOOP2 (L_X9_loadTable_75 Y v0 v1 Kn x2 x22) n 0 M20)))))))))))))))))))))))
set_option maxHeartbeats 4000000 in
set_option maxRecDepth 100000 in
theorem m_X9_loadTable (l : Launch) (D : va_G) (cy : Cy) (tq sz : Nat) (Y : Ly) (v0 : Nat) (v1 : Nat) (M : Mm) (Kn : Mm → Prop) : Met l yX9_loadTable (Cond.code yX9_loadTable cX9_loadTable 5 none :: TT) rm_X9_loadTable (PcG D cy tq [.ref v0, .ref v1] sz Y M (f_X9_loadTable Y v0 v1 M Kn)) (va_Qv Kn (BG D cy (Am Y sz) Y) (Am Y sz)) 0 0 (Am Y sz) := by
  refine Met.ofW (cc := cX9_loadTable) (maxL := 5) (ret := none) (by decide) rfl ?_
  intro p e s m args below meth c s₁ B hml hv
  obtain ⟨hargs, hsz, hW, hK, hC, hf⟩ := hv
  subst hsz
  have hx := B.exec
  have hb := B.bytes
  have hr := B.returns
  have hts : ∀ w ∈ TT, w.before args s = true := fun w h => atoms_spec (ws := Cond.code yX9_loadTable cX9_loadTable 5 none :: TT) B.pre w (List.mem_cons_of_mem _ h)
  have hown : s.vm.findClass RX9 = some m.cls := findClass_of_methodNamed B.named
  have hlocks := B.notSynchronized
  replace hW := Wd_self (sz := s.heap.size) hW
  generalize hAe : Am Y s.heap.size = A at hW hC ⊢
  have hA : ∀ q : Nat, s.heap.size ≤ q → A q := fun q h => by rw [← hAe]; exact Or.inr h
  clear hAe
  have hS : va_S A s.heap s.heap [] := va_S.rf
  obtain ⟨ls, hE, hl⟩ := gm_entry m [.ref v0, .ref v1] (n := 5) hargs (Nat.le_of_ble_eq_true rfl)
  rw [hE]
  have hl : lv_has ls 5 [(0, .ref v0), (1, .ref v1)] := hl
  show W p l e rm_X9_loadTable s m args below meth c s.heap [] 0 0 (MQ below (va_Qv Kn (BG D cy A Y) A) args s 0 0 A) (F0 m 0 ls [])
  unfold f_X9_loadTable at hf
  refine lv_aload_n hx hb dX9_loadTable_0 rfl (lv_at hl 1 rfl) ?_
  obtain ⟨k1, hf⟩ := hf
  refine gm_getI (C := RX8) (T := TX8) (N := 9) (j := 0) hx hb hts inT_8 hown hK hW k1 (by decide) rfl (by decide) rfl (hts _ kw_171) rfl dX9_loadTable_1 ?_
  refine lv_sipush (v := 1024) hx hb dX9_loadTable_4 (by decide +kernel) ?_
  refine lv_imul hx hb dX9_loadTable_7 ?_
  refine lv_topi (fun x2 ex2 => ?_)
  replace hf := hf x2 ex2
  refine lv_istore_n (lv' := [(2, .int x2), (0, .ref v0), (1, .ref v1)]) hx hb dX9_loadTable_8 rfl hl (by decide) rfl (fun ls hl => ?_)
  refine lv_aload_n hx hb dX9_loadTable_9 rfl (lv_at hl 2 rfl) ?_
  refine gm_cv (va_runV (As := []) (rest := []) ⟨hx, hb, hml, hown, hts⟩ (m_X8_clear l D cy tq _ Y _ _ _) (cwV 0 hts (good_V kw_341 kw_342 kw_343 kw_9 kw_344) rfl rfl rfl (by decide +kernel) ⟨Nat.le_of_ble_eq_true rfl, Nat.le_of_ble_eq_true rfl⟩) (gm_preV hK hW hC hS hA k1 (by decide) (q := (RX8, TX8, 9)) rfl rfl hf) rfl rfl hl.1 rfl (lv_room (Nat.le_of_ble_eq_true rfl)) dX9_loadTable_10 ⟨Nat.le_of_ble_eq_true rfl, Nat.le_of_ble_eq_true rfl⟩) hW hS hA (fun M3 H locs hW hS hf => ?_)
  refine lv_aload_n hx hb dX9_loadTable_13 rfl (lv_at hl 2 rfl) ?_
  refine lv_aload_n hx hb dX9_loadTable_14 rfl (lv_at hl 1 rfl) ?_
  obtain ⟨k4, hf⟩ := hf
  obtain ⟨b5, hb5, hf⟩ := hf
  refine gm_getR (C := RX9) (T := TX9) (N := 7) (j := 0) hx hb hts inT_9 hown hK hW k4 (by decide) rfl (by decide) rfl (hts _ kw_213) rfl dX9_loadTable_15 hb5 ?_
  obtain ⟨k6, hf⟩ := hf
  obtain ⟨b7, hb7, hf⟩ := hf
  refine gm_getR (C := RX3) (T := TX3) (N := 4) (j := 0) hx hb hts inT_3 hown hK hW k6 (by decide) rfl (by decide) rfl (hts _ kw_144) rfl dX9_loadTable_18 hb7 ?_
  refine lv_iload_n hx hb dX9_loadTable_21 rfl (lv_at hl 0 rfl) ?_
  refine lv_bipush (v := 8) hx hb dX9_loadTable_22 (by decide +kernel) ?_
  refine gm_cl (va_runS (As := [.ref b7, .int x2, .int 8]) (rest := [.ref v1]) ⟨hx, hb, hml, hown, hts⟩ (m_X1_signed l D cy tq _ Y _ _ _ _ _) (va_cwS 3 hts (good_S kw_345 kw_329 kw_17 kw_330) rfl rfl rfl (by decide +kernel) ⟨Nat.le_of_ble_eq_true rfl, Nat.le_of_ble_eq_true rfl⟩) (gm_preS hK hW hC hS hA hf) rfl rfl hl.1 rfl (lv_room (Nat.le_of_ble_eq_true rfl)) dX9_loadTable_24 ⟨Nat.le_of_ble_eq_true rfl, Nat.le_of_ble_eq_true rfl⟩) hW hS hA (fun r9 M8 H locs hW hS hf => ?_)
  refine gm_putJ (C := RX8) (T := TX8) (N := 9) (j := 1) hx hb hts inT_8 tyX8 tyX8_ok nmX8 hown hK hW hS k1 (by decide) rfl (by decide) rfl (hts _ kw_174) rfl rfl rfl rfl dX9_loadTable_27 (fun H locs M10 eM10 hW hS => ?_)
  replace hf := hf M10 eM10
  refine lv_aload_n hx hb dX9_loadTable_30 rfl (lv_at hl 2 rfl) ?_
  refine lv_aload_n hx hb dX9_loadTable_31 rfl (lv_at hl 1 rfl) ?_
  obtain ⟨b11, hb11, hf⟩ := hf
  refine gm_getR (C := RX9) (T := TX9) (N := 7) (j := 0) hx hb hts inT_9 hown hK hW k4 (by decide) rfl (by decide) rfl (hts _ kw_213) rfl dX9_loadTable_32 hb11 ?_
  obtain ⟨k12, hf⟩ := hf
  obtain ⟨b13, hb13, hf⟩ := hf
  refine gm_getR (C := RX3) (T := TX3) (N := 4) (j := 0) hx hb hts inT_3 hown hK hW k12 (by decide) rfl (by decide) rfl (hts _ kw_144) rfl dX9_loadTable_35 hb13 ?_
  refine lv_iload_n hx hb dX9_loadTable_38 rfl (lv_at hl 0 rfl) ?_
  refine lv_bipush (v := 8) hx hb dX9_loadTable_39 (by decide +kernel) ?_
  refine lv_iadd hx hb dX9_loadTable_41 ?_
  refine lv_bipush (v := 8) hx hb dX9_loadTable_42 (by decide +kernel) ?_
  refine gm_cl (va_runS (As := [.ref b13, .int (x2 + 8), .int 8]) (rest := [.ref v1]) ⟨hx, hb, hml, hown, hts⟩ (m_X1_signed l D cy tq _ Y _ _ _ _ _) (va_cwS 3 hts (good_S kw_345 kw_329 kw_17 kw_330) rfl rfl rfl (by decide +kernel) ⟨Nat.le_of_ble_eq_true rfl, Nat.le_of_ble_eq_true rfl⟩) (gm_preS hK hW hC hS hA hf) rfl rfl hl.1 rfl (lv_room (Nat.le_of_ble_eq_true rfl)) dX9_loadTable_44 ⟨Nat.le_of_ble_eq_true rfl, Nat.le_of_ble_eq_true rfl⟩) hW hS hA (fun r15 M14 H locs hW hS hf => ?_)
  refine gm_putJ (C := RX8) (T := TX8) (N := 9) (j := 2) hx hb hts inT_8 tyX8 tyX8_ok nmX8 hown hK hW hS k1 (by decide) rfl (by decide) rfl (hts _ kw_176) rfl rfl rfl rfl dX9_loadTable_47 (fun H locs M16 eM16 hW hS => ?_)
  replace hf := hf M16 eM16
  refine lv_aload_n hx hb dX9_loadTable_50 rfl (lv_at hl 1 rfl) ?_
  obtain ⟨b17, hb17, hf⟩ := hf
  refine gm_getR (C := RX9) (T := TX9) (N := 7) (j := 0) hx hb hts inT_9 hown hK hW k4 (by decide) rfl (by decide) rfl (hts _ kw_213) rfl dX9_loadTable_51 hb17 ?_
  obtain ⟨k18, hf⟩ := hf
  obtain ⟨b19, hb19, hf⟩ := hf
  refine gm_getR (C := RX3) (T := TX3) (N := 4) (j := 0) hx hb hts inT_3 hown hK hW k18 (by decide) rfl (by decide) rfl (hts _ kw_144) rfl dX9_loadTable_54 hb19 ?_
  refine lv_iload_n hx hb dX9_loadTable_57 rfl (lv_at hl 0 rfl) ?_
  refine lv_bipush (v := 16) hx hb dX9_loadTable_58 (by decide +kernel) ?_
  refine lv_iadd hx hb dX9_loadTable_60 ?_
  refine lv_iconst (v := 4) hx hb dX9_loadTable_61 (by decide +kernel) ?_
  refine gm_cl (va_runS (As := [.ref b19, .int (x2 + 16), .int 4]) (rest := []) ⟨hx, hb, hml, hown, hts⟩ (m_X1_signed l D cy tq _ Y _ _ _ _ _) (va_cwS 3 hts (good_S kw_345 kw_329 kw_17 kw_330) rfl rfl rfl (by decide +kernel) ⟨Nat.le_of_ble_eq_true rfl, Nat.le_of_ble_eq_true rfl⟩) (gm_preS hK hW hC hS hA hf) rfl rfl hl.1 rfl (lv_room (Nat.le_of_ble_eq_true rfl)) dX9_loadTable_62 ⟨Nat.le_of_ble_eq_true rfl, Nat.le_of_ble_eq_true rfl⟩) hW hS hA (fun r21 M20 H locs hW hS hf => ?_)
  refine lv_l2i hx hb dX9_loadTable_65 rfl ?_
  refine lv_bipush (v := 60) hx hb dX9_loadTable_66 (by decide +kernel) ?_
  refine va_mmin hx hb (by rw [hml]; exact hl.1.symm) hown (hts _ kw_346) (hts _ kw_131) (hts _ kw_6) (hts _ kmath_minI) (Nat.le_of_ble_eq_true rfl) (Nat.le_of_ble_eq_true rfl) (Nat.zero_le _) (Nat.zero_le _) dX9_loadTable_68 ?_
  refine lv_topi (fun x22 ex22 => ?_)
  replace hf := hf x22 ex22
  refine lv_istore_n (lv' := [(3, .int x22), (2, .int x2), (0, .ref v0), (1, .ref v1)]) hx hb dX9_loadTable_71 rfl hl (by decide) rfl (fun ls hl => ?_)
  refine lv_iconst (v := 0) hx hb dX9_loadTable_72 (by decide +kernel) ?_
  refine lv_istore (lv' := [(4, .int 0), (3, .int x22), (2, .int x2), (0, .ref v0), (1, .ref v1)]) hx hb dX9_loadTable_73 hl (by decide) rfl (fun ls hl => ?_)
  obtain ⟨n75, hf⟩ := hf
  have lp75 : ∀ (n75 : Nat) (x23 : Int32) (M24 : Mm) (H : Heap) (locs : List Loc) (ls : Array Slot), lv_has ls 5 [(0, .ref v0), (1, .ref v1), (2, .int x2), (3, .int x22), (4, .int x23)] → Wd D cy A Y M24 H → va_S A s.heap H locs → LOOP2 (L_X9_loadTable_75 Y v0 v1 Kn x2 x22) n75 x23 M24 → W p l e rm_X9_loadTable s m args below meth c H locs 0 0 (MQ below (va_Qv Kn (BG D cy A Y) A) args s 0 0 A) (F0 m 75 ls []) := by
    intro n75
    induction n75 with
    | zero => intro x23 M24 H locs ls hl hW hS hf; exact hf.elim
    | succ n75 ih75 =>
      intro x23 M24 H locs ls hl hW hS hf
      replace hf : L_X9_loadTable_75 Y v0 v1 Kn x2 x22 x23 M24 (LOOP2 (L_X9_loadTable_75 Y v0 v1 Kn x2 x22) n75) := hf
      unfold L_X9_loadTable_75 at hf
      refine lv_iload hx hb dX9_loadTable_75 (lv_at hl 4 rfl) ?_
      refine lv_iload_n hx hb dX9_loadTable_77 rfl (lv_at hl 3 rfl) ?_
      refine lv_icmp_ge (tgt := 140) hx hb dX9_loadTable_78 (by decide) (fun c25 => ?_) (fun c25 => ?_)
      · replace hf := hf.1 c25
        exact gm_vret hx hb hr hlocks hW hS hf dX9_loadTable_140
      · replace hf := hf.2 c25
        refine lv_aload_n hx hb dX9_loadTable_81 rfl (lv_at hl 1 rfl) ?_
        refine lv_aload_n hx hb dX9_loadTable_82 rfl (lv_at hl 0 rfl) ?_
        obtain ⟨b26, hb26, hf⟩ := hf
        refine gm_getR (C := RX9) (T := TX9) (N := 7) (j := 0) hx hb hts inT_9 hown hK hW k4 (by decide) rfl (by decide) rfl (hts _ kw_213) rfl dX9_loadTable_83 hb26 ?_
        obtain ⟨k27, hf⟩ := hf
        obtain ⟨b28, hb28, hf⟩ := hf
        refine gm_getR (C := RX3) (T := TX3) (N := 4) (j := 0) hx hb hts inT_3 hown hK hW k27 (by decide) rfl (by decide) rfl (hts _ kw_144) rfl dX9_loadTable_86 hb28 ?_
        refine lv_iload_n hx hb dX9_loadTable_89 rfl (lv_at hl 2 rfl) ?_
        refine lv_bipush (v := 20) hx hb dX9_loadTable_90 (by decide +kernel) ?_
        refine lv_iadd hx hb dX9_loadTable_92 ?_
        refine lv_bipush (v := 8) hx hb dX9_loadTable_93 (by decide +kernel) ?_
        refine lv_iload hx hb dX9_loadTable_95 (lv_at hl 4 rfl) ?_
        refine lv_imul hx hb dX9_loadTable_97 ?_
        refine lv_iadd hx hb dX9_loadTable_98 ?_
        refine lv_iconst (v := 4) hx hb dX9_loadTable_99 (by decide +kernel) ?_
        refine gm_cl (va_runS (As := [.ref b28, .int ((x2 + 20) + (8 * x23)), .int 4]) (rest := [.ref v1]) ⟨hx, hb, hml, hown, hts⟩ (m_X1_signed l D cy tq _ Y _ _ _ _ _) (va_cwS 3 hts (good_S kw_345 kw_329 kw_17 kw_330) rfl rfl rfl (by decide +kernel) ⟨Nat.le_of_ble_eq_true rfl, Nat.le_of_ble_eq_true rfl⟩) (gm_preS hK hW hC hS hA hf) rfl rfl hl.1 rfl (lv_room (Nat.le_of_ble_eq_true rfl)) dX9_loadTable_100 ⟨Nat.le_of_ble_eq_true rfl, Nat.le_of_ble_eq_true rfl⟩) hW hS hA (fun r30 M29 H locs hW hS hf => ?_)
        refine lv_l2i hx hb dX9_loadTable_103 rfl ?_
        refine gm_cv (va_runV (As := [.int r30.toInt32]) (rest := []) ⟨hx, hb, hml, hown, hts⟩ (m_X8_addSegment l D cy tq _ Y _ _ _ _) (cwV 1 hts (good_V kw_347 kw_348 kw_349 kw_9 kw_350) rfl rfl rfl (by decide +kernel) ⟨Nat.le_of_ble_eq_true rfl, Nat.le_of_ble_eq_true rfl⟩) (gm_preV hK hW hC hS hA k1 (by decide) (q := (RX8, TX8, 9)) rfl rfl hf) rfl rfl hl.1 rfl (lv_room (Nat.le_of_ble_eq_true rfl)) dX9_loadTable_104 ⟨Nat.le_of_ble_eq_true rfl, Nat.le_of_ble_eq_true rfl⟩) hW hS hA (fun M31 H locs hW hS hf => ?_)
        refine lv_aload_n hx hb dX9_loadTable_107 rfl (lv_at hl 0 rfl) ?_
        refine lv_aload_n hx hb dX9_loadTable_108 rfl (lv_at hl 1 rfl) ?_
        refine lv_aload_n hx hb dX9_loadTable_109 rfl (lv_at hl 0 rfl) ?_
        obtain ⟨b32, hb32, hf⟩ := hf
        refine gm_getR (C := RX9) (T := TX9) (N := 7) (j := 0) hx hb hts inT_9 hown hK hW k4 (by decide) rfl (by decide) rfl (hts _ kw_213) rfl dX9_loadTable_110 hb32 ?_
        obtain ⟨k33, hf⟩ := hf
        obtain ⟨b34, hb34, hf⟩ := hf
        refine gm_getR (C := RX3) (T := TX3) (N := 4) (j := 0) hx hb hts inT_3 hown hK hW k33 (by decide) rfl (by decide) rfl (hts _ kw_144) rfl dX9_loadTable_113 hb34 ?_
        refine lv_iload_n hx hb dX9_loadTable_116 rfl (lv_at hl 2 rfl) ?_
        refine lv_bipush (v := 24) hx hb dX9_loadTable_117 (by decide +kernel) ?_
        refine lv_iadd hx hb dX9_loadTable_119 ?_
        refine lv_bipush (v := 8) hx hb dX9_loadTable_120 (by decide +kernel) ?_
        refine lv_iload hx hb dX9_loadTable_122 (lv_at hl 4 rfl) ?_
        refine lv_imul hx hb dX9_loadTable_124 ?_
        refine lv_iadd hx hb dX9_loadTable_125 ?_
        refine lv_iconst (v := 4) hx hb dX9_loadTable_126 (by decide +kernel) ?_
        refine gm_cl (va_runS (As := [.ref b34, .int ((x2 + 24) + (8 * x23)), .int 4]) (rest := [.ref v1, .ref v0]) ⟨hx, hb, hml, hown, hts⟩ (m_X1_signed l D cy tq _ Y _ _ _ _ _) (va_cwS 3 hts (good_S kw_345 kw_329 kw_17 kw_330) rfl rfl rfl (by decide +kernel) ⟨Nat.le_of_ble_eq_true rfl, Nat.le_of_ble_eq_true rfl⟩) (gm_preS hK hW hC hS hA hf) rfl rfl hl.1 rfl (lv_room (Nat.le_of_ble_eq_true rfl)) dX9_loadTable_127 ⟨Nat.le_of_ble_eq_true rfl, Nat.le_of_ble_eq_true rfl⟩) hW hS hA (fun r36 M35 H locs hW hS hf => ?_)
        refine lv_l2i hx hb dX9_loadTable_130 rfl ?_
        refine gm_cv (va_runV (As := [.ref v1, .int r36.toInt32]) (rest := []) ⟨hx, hb, hml, hown, hts⟩ (m_X9_loadSegment l D cy tq _ Y _ _ _ _ _) (cwV 2 hts (good_V kw_351 kw_352 kw_1786 kw_8 kw_353) rfl rfl rfl (by decide +kernel) ⟨Nat.le_of_ble_eq_true rfl, Nat.le_of_ble_eq_true rfl⟩) (gm_preV hK hW hC hS hA k4 (by decide) (q := (RX9, TX9, 7)) rfl rfl hf) rfl rfl hl.1 rfl (lv_room (Nat.le_of_ble_eq_true rfl)) dX9_loadTable_131 ⟨Nat.le_of_ble_eq_true rfl, Nat.le_of_ble_eq_true rfl⟩) hW hS hA (fun M37 H locs hW hS hf => ?_)
        obtain ⟨x38, ex38⟩ : ∃ y : Int32, y = x23 + 1 := ⟨_, rfl⟩
        replace hf := hf x38 ex38
        refine lv_iinc (v := x38) (lv' := [(4, .int x38), (0, .ref v0), (1, .ref v1), (2, .int x2), (3, .int x22)]) hx hb dX9_loadTable_134 hl (k := 4) rfl (by rw [ex38]; rfl) (by decide) rfl (fun ls hl => ?_)
        refine lv_goto (tgt := 75) hx hb dX9_loadTable_137 (by decide) ?_
        exact ih75 _ _ _ _ _ (lv_sub hl [1, 2, 3, 4, 0] rfl) hW hS hf
  exact lp75 n75 _ _ _ _ _ (lv_sub hl [3, 4, 2, 1, 0] rfl) hW hS hf

abbrev rm_X9_load : Room := { frames := 7, cells := 0, slots := 0, locals := 198 }
def L_X9_load_13 (Y : Ly) (v0 : Nat) (Kn : Int32 → Mm → Prop) (b2 : Nat) (x4 : Int32) (x5 : Int32) (x6 : Int32) (M7 : Mm) (again13 : Int32 → Int32 → Mm → Prop) : Prop :=
  (x4 ≤ x6 → (Kn x5 M7)) ∧ (¬ (x4 ≤ x6) → (vp_in x6 (yN Y b2) ∧ (∃ b10 : Nat, mR M7 b2 x6.toNatClampNeg = some b10 ∧ (f_X9_loadTable Y v0 b10 M7 (fun M11 => (yK Y b10 = 8 ∧ (∀ x13 : Int32, x13 = x5 + (mI M11 b10 7) → (∀ x14 : Int32, x14 = x6 + 1 → (again13 x13 x14 M11)))))))))
def f_X9_load (Y : Ly) (v0 : Nat) (M : Mm) (Kn : Int32 → Mm → Prop) : Prop :=
  yK Y v0 = 9 ∧ (∃ b2 : Nat, mR M v0 1 = some b2 ∧ (yK Y b2 = 104 ∧ (∀ x4 : Int32, x4 = nI (yN Y b2) → (∃ n, LOOP3 (L_X9_load_13 Y v0 Kn b2 x4) n 0 0 M))))
set_option maxHeartbeats 4000000 in
set_option maxRecDepth 100000 in
theorem m_X9_load (l : Launch) (D : va_G) (cy : Cy) (tq sz : Nat) (Y : Ly) (v0 : Nat) (M : Mm) (Kn : Int32 → Mm → Prop) : Met l yX9_load (Cond.code yX9_load cX9_load 6 (some .int) :: TT) rm_X9_load (PcG D cy tq [.ref v0] sz Y M (f_X9_load Y v0 M Kn)) (va_Qi Kn (BG D cy (Am Y sz) Y) (Am Y sz)) 0 0 (Am Y sz) := by
  refine Met.ofW (cc := cX9_load) (maxL := 6) (ret := (some .int)) (by decide) rfl ?_
  intro p e s m args below meth c s₁ B hml hv
  obtain ⟨hargs, hsz, hW, hK, hC, hf⟩ := hv
  subst hsz
  have hx := B.exec
  have hb := B.bytes
  have hr := B.returns
  have hts : ∀ w ∈ TT, w.before args s = true := fun w h => atoms_spec (ws := Cond.code yX9_load cX9_load 6 (some .int) :: TT) B.pre w (List.mem_cons_of_mem _ h)
  have hown : s.vm.findClass RX9 = some m.cls := findClass_of_methodNamed B.named
  have hlocks := B.notSynchronized
  replace hW := Wd_self (sz := s.heap.size) hW
  generalize hAe : Am Y s.heap.size = A at hW hC ⊢
  have hA : ∀ q : Nat, s.heap.size ≤ q → A q := fun q h => by rw [← hAe]; exact Or.inr h
  clear hAe
  have hS : va_S A s.heap s.heap [] := va_S.rf
  obtain ⟨ls, hE, hl⟩ := gm_entry m [.ref v0] (n := 6) hargs (Nat.le_of_ble_eq_true rfl)
  rw [hE]
  have hl : lv_has ls 6 [(0, .ref v0)] := hl
  show W p l e rm_X9_load s m args below meth c s.heap [] 0 0 (MQ below (va_Qi Kn (BG D cy A Y) A) args s 0 0 A) (F0 m 0 ls [])
  unfold f_X9_load at hf
  refine lv_iconst (v := 0) hx hb dX9_load_0 (by decide +kernel) ?_
  refine lv_istore_n (lv' := [(1, .int 0), (0, .ref v0)]) hx hb dX9_load_1 rfl hl (by decide) rfl (fun ls hl => ?_)
  refine lv_aload_n hx hb dX9_load_2 rfl (lv_at hl 1 rfl) ?_
  obtain ⟨k1, hf⟩ := hf
  obtain ⟨b2, hb2, hf⟩ := hf
  refine gm_getR (C := RX9) (T := TX9) (N := 7) (j := 1) hx hb hts inT_9 hown hK hW k1 (by decide) rfl (by decide) rfl (hts _ kw_216) rfl dX9_load_3 hb2 ?_
  refine lv_astore_n (lv' := [(2, .ref b2), (1, .int 0), (0, .ref v0)]) hx hb dX9_load_6 rfl hl (by decide) rfl (fun ls hl => ?_)
  refine lv_aload_n hx hb dX9_load_7 rfl (lv_at hl 0 rfl) ?_
  obtain ⟨k3, hf⟩ := hf
  refine gm_alen hx hb hK hW (by rw [k3]; decide) dX9_load_8 ?_
  refine lv_topi (fun x4 ex4 => ?_)
  replace hf := hf x4 ex4
  refine lv_istore_n (lv' := [(3, .int x4), (2, .ref b2), (1, .int 0), (0, .ref v0)]) hx hb dX9_load_9 rfl hl (by decide) rfl (fun ls hl => ?_)
  refine lv_iconst (v := 0) hx hb dX9_load_10 (by decide +kernel) ?_
  refine lv_istore (lv' := [(4, .int 0), (3, .int x4), (2, .ref b2), (1, .int 0), (0, .ref v0)]) hx hb dX9_load_11 hl (by decide) rfl (fun ls hl => ?_)
  obtain ⟨n13, hf⟩ := hf
  have lp13 : ∀ (n13 : Nat) (x5 : Int32) (x6 : Int32) (M7 : Mm) (H : Heap) (locs : List Loc) (ls : Array Slot), lv_has ls 6 [(0, .ref v0), (1, .int x5), (2, .ref b2), (3, .int x4), (4, .int x6)] → Wd D cy A Y M7 H → va_S A s.heap H locs → LOOP3 (L_X9_load_13 Y v0 Kn b2 x4) n13 x5 x6 M7 → W p l e rm_X9_load s m args below meth c H locs 0 0 (MQ below (va_Qi Kn (BG D cy A Y) A) args s 0 0 A) (F0 m 13 ls []) := by
    intro n13
    induction n13 with
    | zero => intro x5 x6 M7 H locs ls hl hW hS hf; exact hf.elim
    | succ n13 ih13 =>
      intro x5 x6 M7 H locs ls hl hW hS hf
      replace hf : L_X9_load_13 Y v0 Kn b2 x4 x5 x6 M7 (LOOP3 (L_X9_load_13 Y v0 Kn b2 x4) n13) := hf
      unfold L_X9_load_13 at hf
      refine lv_iload hx hb dX9_load_13 (lv_at hl 4 rfl) ?_
      refine lv_iload_n hx hb dX9_load_15 rfl (lv_at hl 3 rfl) ?_
      refine lv_icmp_ge (tgt := 45) hx hb dX9_load_16 (by decide) (fun c8 => ?_) (fun c8 => ?_)
      · replace hf := hf.1 c8
        refine lv_iload_n hx hb dX9_load_45 rfl (lv_at hl 1 rfl) ?_
        exact gm_iret hx hb hr hlocks hW hS hf dX9_load_46
      · replace hf := hf.2 c8
        refine lv_aload_n hx hb dX9_load_19 rfl (lv_at hl 2 rfl) ?_
        refine lv_iload hx hb dX9_load_20 (lv_at hl 4 rfl) ?_
        obtain ⟨h9, hf⟩ := hf
        obtain ⟨b10, hb10, hf⟩ := hf
        refine gm_aald hx hb hK hW k3 h9 hb10 dX9_load_22 ?_
        refine lv_astore (lv' := [(5, .ref b10), (0, .ref v0), (1, .int x5), (2, .ref b2), (3, .int x4), (4, .int x6)]) hx hb dX9_load_23 hl (by decide) rfl (fun ls hl => ?_)
        refine lv_aload_n hx hb dX9_load_25 rfl (lv_at hl 1 rfl) ?_
        refine lv_aload hx hb dX9_load_26 (lv_at hl 0 rfl) ?_
        refine gm_cv (va_runV (As := [.ref b10]) (rest := []) ⟨hx, hb, hml, hown, hts⟩ (m_X9_loadTable l D cy tq _ Y _ _ _ _) (cwV 1 hts (good_V kw_338 kw_339 kw_1785 kw_8 kw_340) rfl rfl rfl (by decide +kernel) ⟨Nat.le_of_ble_eq_true rfl, Nat.le_of_ble_eq_true rfl⟩) (gm_preV hK hW hC hS hA k1 (by decide) (q := (RX9, TX9, 7)) rfl rfl hf) rfl rfl hl.1 rfl (lv_room (Nat.le_of_ble_eq_true rfl)) dX9_load_28 ⟨Nat.le_of_ble_eq_true rfl, Nat.le_of_ble_eq_true rfl⟩) hW hS hA (fun M11 H locs hW hS hf => ?_)
        refine lv_iload_n hx hb dX9_load_31 rfl (lv_at hl 2 rfl) ?_
        refine lv_aload hx hb dX9_load_32 (lv_at hl 0 rfl) ?_
        obtain ⟨k12, hf⟩ := hf
        refine gm_getI (C := RX8) (T := TX8) (N := 9) (j := 7) hx hb hts inT_8 hown hK hW k12 (by decide) rfl (by decide) rfl (hts _ kw_192) rfl dX9_load_34 ?_
        refine lv_iadd hx hb dX9_load_37 ?_
        refine lv_topi (fun x13 ex13 => ?_)
        replace hf := hf x13 ex13
        refine lv_istore_n (lv' := [(1, .int x13), (5, .ref b10), (0, .ref v0), (2, .ref b2), (3, .int x4), (4, .int x6)]) hx hb dX9_load_38 rfl hl (by decide) rfl (fun ls hl => ?_)
        obtain ⟨x14, ex14⟩ : ∃ y : Int32, y = x6 + 1 := ⟨_, rfl⟩
        replace hf := hf x14 ex14
        refine lv_iinc (v := x14) (lv' := [(4, .int x14), (1, .int x13), (5, .ref b10), (0, .ref v0), (2, .ref b2), (3, .int x4)]) hx hb dX9_load_39 hl (k := 5) rfl (by rw [ex14]; rfl) (by decide) rfl (fun ls hl => ?_)
        refine lv_goto (tgt := 13) hx hb dX9_load_42 (by decide) ?_
        exact ih13 _ _ _ _ _ _ (lv_sub hl [3, 1, 4, 5, 0] rfl) hW hS hf
  exact lp13 n13 _ _ _ _ _ _ (lv_sub hl [4, 3, 2, 1, 0] rfl) hW hS hf

abbrev rm_X9_lastOffsetLeft : Room := { frames := 5, cells := 0, slots := 0, locals := 158 }
def f_X9_lastOffsetLeft_76 (Y : Ly) (Kn : Int64 → Mm → Prop) (x9 : Int64) (M13 : Mm) : Prop :=
  Kn x9 M13
def L_X9_lastOffsetLeft_26 (Y : Ly) (v0 : Nat) (v2 : Int32) (Kn : Int64 → Mm → Prop) (x7 : Int32) (x9 : Int64) (x10 : Int32) (x11 : Int32) (M12 : Mm) (again26 : Int64 → Int32 → Int32 → Mm → Prop) : Prop :=
  (v2 ≤ x11 → (f_X9_lastOffsetLeft_76 Y Kn x9 M12)) ∧ (¬ (v2 ≤ x11) → (∃ b15 : Nat, mR M12 v0 6 = some b15 ∧ (∃ b16 : Nat, mR M12 v0 0 = some b16 ∧ (yK Y b16 = 3 ∧ (∃ b18 : Nat, mR M12 b16 0 = some b18 ∧ (yK Y b15 = 10 ∧ (f_X10_read Y b15 b18 x10 x7 M12 (fun r20 M19 => ((r20 = 0 → (f_X9_lastOffsetLeft_76 Y Kn x9 M19)) ∧ (¬ (r20 = 0) → (∃ b23 : Nat, mR M19 v0 6 = some b23 ∧ (yK Y b23 = 10 ∧ (∀ x25 : Int64, x25 = mJ M19 b23 1 → (∃ b26 : Nat, mR M19 v0 6 = some b26 ∧ (yK Y b26 = 10 ∧ (∀ x28 : Int32, x28 = mI M19 b26 6 → (∀ x29 : Int32, x29 = x11 + 1 → (again26 x25 x28 x29 M19))))))))))))))))))
def f_X9_lastOffsetLeft (Y : Ly) (v0 : Nat) (v1 : Int32) (v2 : Int32) (M : Mm) (Kn : Int64 → Mm → Prop) : Prop :=
  yK Y v0 = 9 ∧ (∃ b2 : Nat, mR M v0 0 = some b2 ∧ (yK Y b2 = 3 ∧ (∃ b4 : Nat, mR M b2 0 = some b4 ∧ (f_X0_sizeOf Y b4 v1 M (fun r6 M5 => (∀ x7 : Int32, x7 = v1 + r6 → (∀ x8 : Int32, x8 = v1 + 61 → (∃ n, LOOP4 (L_X9_lastOffsetLeft_26 Y v0 v2 Kn x7) n 0 x8 0 M5))))))))
set_option maxHeartbeats 4000000 in
set_option maxRecDepth 100000 in
theorem m_X9_lastOffsetLeft (l : Launch) (D : va_G) (cy : Cy) (tq sz : Nat) (Y : Ly) (v0 : Nat) (v1 : Int32) (v2 : Int32) (M : Mm) (Kn : Int64 → Mm → Prop) : Met l yX9_lastOffsetLeft (Cond.code yX9_lastOffsetLeft cX9_lastOffsetLeft 8 (some .long) :: TT) rm_X9_lastOffsetLeft (PcG D cy tq [.ref v0, .int v1, .int v2] sz Y M (f_X9_lastOffsetLeft Y v0 v1 v2 M Kn)) (va_Ql Kn (BG D cy (Am Y sz) Y) (Am Y sz)) 0 0 (Am Y sz) := by
  refine Met.ofW (cc := cX9_lastOffsetLeft) (maxL := 8) (ret := (some .long)) (by decide) rfl ?_
  intro p e s m args below meth c s₁ B hml hv
  obtain ⟨hargs, hsz, hW, hK, hC, hf⟩ := hv
  subst hsz
  have hx := B.exec
  have hb := B.bytes
  have hr := B.returns
  have hts : ∀ w ∈ TT, w.before args s = true := fun w h => atoms_spec (ws := Cond.code yX9_lastOffsetLeft cX9_lastOffsetLeft 8 (some .long) :: TT) B.pre w (List.mem_cons_of_mem _ h)
  have hown : s.vm.findClass RX9 = some m.cls := findClass_of_methodNamed B.named
  have hlocks := B.notSynchronized
  replace hW := Wd_self (sz := s.heap.size) hW
  generalize hAe : Am Y s.heap.size = A at hW hC ⊢
  have hA : ∀ q : Nat, s.heap.size ≤ q → A q := fun q h => by rw [← hAe]; exact Or.inr h
  clear hAe
  have hS : va_S A s.heap s.heap [] := va_S.rf
  obtain ⟨ls, hE, hl⟩ := gm_entry m [.ref v0, .int v1, .int v2] (n := 8) hargs (Nat.le_of_ble_eq_true rfl)
  rw [hE]
  have hl : lv_has ls 8 [(0, .ref v0), (1, .int v1), (2, .int v2)] := hl
  show W p l e rm_X9_lastOffsetLeft s m args below meth c s.heap [] 0 0 (MQ below (va_Ql Kn (BG D cy A Y) A) args s 0 0 A) (F0 m 0 ls [])
  unfold f_X9_lastOffsetLeft at hf
  refine lv_iload_n hx hb dX9_lastOffsetLeft_0 rfl (lv_at hl 1 rfl) ?_
  refine lv_aload_n hx hb dX9_lastOffsetLeft_1 rfl (lv_at hl 0 rfl) ?_
  obtain ⟨k1, hf⟩ := hf
  obtain ⟨b2, hb2, hf⟩ := hf
  refine gm_getR (C := RX9) (T := TX9) (N := 7) (j := 0) hx hb hts inT_9 hown hK hW k1 (by decide) rfl (by decide) rfl (hts _ kw_213) rfl dX9_lastOffsetLeft_2 hb2 ?_
  obtain ⟨k3, hf⟩ := hf
  obtain ⟨b4, hb4, hf⟩ := hf
  refine gm_getR (C := RX3) (T := TX3) (N := 4) (j := 0) hx hb hts inT_3 hown hK hW k3 (by decide) rfl (by decide) rfl (hts _ kw_144) rfl dX9_lastOffsetLeft_5 hb4 ?_
  refine lv_iload_n hx hb dX9_lastOffsetLeft_8 rfl (lv_at hl 1 rfl) ?_
  refine gm_ci (va_runS (As := [.ref b4, .int v1]) (rest := [.int v1]) ⟨hx, hb, hml, hown, hts⟩ (m_X0_sizeOf l D cy tq _ Y _ _ _ _) (va_cwS 2 hts (good_S kw_354 kw_355 kw_20 kw_356) rfl rfl rfl (by decide +kernel) ⟨Nat.le_of_ble_eq_true rfl, Nat.le_of_ble_eq_true rfl⟩) (gm_preS hK hW hC hS hA hf) rfl rfl hl.1 rfl (lv_room (Nat.le_of_ble_eq_true rfl)) dX9_lastOffsetLeft_9 ⟨Nat.le_of_ble_eq_true rfl, Nat.le_of_ble_eq_true rfl⟩) hW hS hA (fun r6 M5 H locs hW hS hf => ?_)
  refine lv_iadd hx hb dX9_lastOffsetLeft_12 ?_
  refine lv_topi (fun x7 ex7 => ?_)
  replace hf := hf x7 ex7
  refine lv_istore_n (lv' := [(3, .int x7), (0, .ref v0), (1, .int v1), (2, .int v2)]) hx hb dX9_lastOffsetLeft_13 rfl hl (by decide) rfl (fun ls hl => ?_)
  refine lv_lconst (v := 0) hx hb dX9_lastOffsetLeft_14 (by decide) ?_
  refine lv_lstore (lv' := [(4, .long 0), (3, .int x7), (0, .ref v0), (1, .int v1), (2, .int v2)]) hx hb dX9_lastOffsetLeft_15 hl (by decide) rfl (fun ls hl => ?_)
  refine lv_iload_n hx hb dX9_lastOffsetLeft_17 rfl (lv_at hl 3 rfl) ?_
  refine lv_bipush (v := 61) hx hb dX9_lastOffsetLeft_18 (by decide +kernel) ?_
  refine lv_iadd hx hb dX9_lastOffsetLeft_20 ?_
  refine lv_topi (fun x8 ex8 => ?_)
  replace hf := hf x8 ex8
  refine lv_istore (lv' := [(6, .int x8), (4, .long 0), (3, .int x7), (0, .ref v0), (1, .int v1), (2, .int v2)]) hx hb dX9_lastOffsetLeft_21 hl (by decide) rfl (fun ls hl => ?_)
  refine lv_iconst (v := 0) hx hb dX9_lastOffsetLeft_23 (by decide +kernel) ?_
  refine lv_istore (lv' := [(7, .int 0), (6, .int x8), (4, .long 0), (3, .int x7), (0, .ref v0), (1, .int v1), (2, .int v2)]) hx hb dX9_lastOffsetLeft_24 hl (by decide) rfl (fun ls hl => ?_)
  obtain ⟨n26, hf⟩ := hf
  have lp26 : ∀ (n26 : Nat) (x9 : Int64) (x10 : Int32) (x11 : Int32) (M12 : Mm) (H : Heap) (locs : List Loc) (ls : Array Slot), lv_has ls 8 [(0, .ref v0), (2, .int v2), (3, .int x7), (4, .long x9), (6, .int x10), (7, .int x11)] → Wd D cy A Y M12 H → va_S A s.heap H locs → LOOP4 (L_X9_lastOffsetLeft_26 Y v0 v2 Kn x7) n26 x9 x10 x11 M12 → W p l e rm_X9_lastOffsetLeft s m args below meth c H locs 0 0 (MQ below (va_Ql Kn (BG D cy A Y) A) args s 0 0 A) (F0 m 26 ls []) := by
    intro n26
    induction n26 with
    | zero => intro x9 x10 x11 M12 H locs ls hl hW hS hf; exact hf.elim
    | succ n26 ih26 =>
      intro x9 x10 x11 M12 H locs ls hl hW hS hf
      replace hf : L_X9_lastOffsetLeft_26 Y v0 v2 Kn x7 x9 x10 x11 M12 (LOOP4 (L_X9_lastOffsetLeft_26 Y v0 v2 Kn x7) n26) := hf
      unfold L_X9_lastOffsetLeft_26 at hf
      refine lv_iload hx hb dX9_lastOffsetLeft_26 (lv_at hl 5 rfl) ?_
      refine lv_iload_n hx hb dX9_lastOffsetLeft_28 rfl (lv_at hl 1 rfl) ?_
      have j76 : ∀ (M13 : Mm) (H : Heap) (locs : List Loc) (ls : Array Slot), lv_has ls 8 [(4, .long x9)] → Wd D cy A Y M13 H → va_S A s.heap H locs → f_X9_lastOffsetLeft_76 Y Kn x9 M13 → W p l e rm_X9_lastOffsetLeft s m args below meth c H locs 0 0 (MQ below (va_Ql Kn (BG D cy A Y) A) args s 0 0 A) (F0 m 76 ls []) := by
        intro M13 H locs ls hl hW hS hf
        unfold f_X9_lastOffsetLeft_76 at hf
        refine lv_lload hx hb dX9_lastOffsetLeft_76 (lv_at hl 0 rfl) ?_
        exact gm_lret hx hb hr hlocks hW hS hf dX9_lastOffsetLeft_78
      refine lv_icmp_ge (tgt := 76) hx hb dX9_lastOffsetLeft_29 (by decide) (fun c14 => ?_) (fun c14 => ?_)
      · replace hf := hf.1 c14
        exact j76 _ _ _ _ (lv_sub hl [3] rfl) hW hS hf
      · replace hf := hf.2 c14
        refine lv_aload_n hx hb dX9_lastOffsetLeft_32 rfl (lv_at hl 0 rfl) ?_
        obtain ⟨b15, hb15, hf⟩ := hf
        refine gm_getR (C := RX9) (T := TX9) (N := 7) (j := 6) hx hb hts inT_9 hown hK hW k1 (by decide) rfl (by decide) rfl (hts _ kw_224) rfl dX9_lastOffsetLeft_33 hb15 ?_
        refine lv_aload_n hx hb dX9_lastOffsetLeft_36 rfl (lv_at hl 0 rfl) ?_
        obtain ⟨b16, hb16, hf⟩ := hf
        refine gm_getR (C := RX9) (T := TX9) (N := 7) (j := 0) hx hb hts inT_9 hown hK hW k1 (by decide) rfl (by decide) rfl (hts _ kw_213) rfl dX9_lastOffsetLeft_37 hb16 ?_
        obtain ⟨k17, hf⟩ := hf
        obtain ⟨b18, hb18, hf⟩ := hf
        refine gm_getR (C := RX3) (T := TX3) (N := 4) (j := 0) hx hb hts inT_3 hown hK hW k17 (by decide) rfl (by decide) rfl (hts _ kw_144) rfl dX9_lastOffsetLeft_40 hb18 ?_
        refine lv_iload hx hb dX9_lastOffsetLeft_43 (lv_at hl 4 rfl) ?_
        refine lv_iload_n hx hb dX9_lastOffsetLeft_45 rfl (lv_at hl 2 rfl) ?_
        obtain ⟨k21, hf⟩ := hf
        refine gm_ci (va_runV (As := [.ref b18, .int x10, .int x7]) (rest := []) ⟨hx, hb, hml, hown, hts⟩ (m_X10_read l D cy tq _ Y _ _ _ _ _ _) (cwV 3 hts (good_V kw_986 kw_819 kw_820 kw_4 kw_821) rfl rfl rfl (by decide +kernel) ⟨Nat.le_of_ble_eq_true rfl, Nat.le_of_ble_eq_true rfl⟩) (gm_preV hK hW hC hS hA k21 (by decide) (q := (RX10, TX10, 8)) rfl rfl hf) rfl rfl hl.1 rfl (lv_room (Nat.le_of_ble_eq_true rfl)) dX9_lastOffsetLeft_46 ⟨Nat.le_of_ble_eq_true rfl, Nat.le_of_ble_eq_true rfl⟩) hW hS hA (fun r20 M19 H locs hW hS hf => ?_)
        refine lv_if_eq (tgt := 76) hx hb dX9_lastOffsetLeft_49 (by decide) (fun c22 => ?_) (fun c22 => ?_)
        · replace hf := hf.1 c22
          exact j76 _ _ _ _ (lv_sub hl [3] rfl) hW hS hf
        · replace hf := hf.2 c22
          refine lv_aload_n hx hb dX9_lastOffsetLeft_52 rfl (lv_at hl 0 rfl) ?_
          obtain ⟨b23, hb23, hf⟩ := hf
          refine gm_getR (C := RX9) (T := TX9) (N := 7) (j := 6) hx hb hts inT_9 hown hK hW k1 (by decide) rfl (by decide) rfl (hts _ kw_224) rfl dX9_lastOffsetLeft_53 hb23 ?_
          obtain ⟨k24, hf⟩ := hf
          refine gm_getJ (C := RX10) (T := TX10) (N := 8) (j := 1) hx hb hts inT_10 hown hK hW k24 (by decide) rfl (by decide) rfl (hts _ kw_74) rfl dX9_lastOffsetLeft_56 ?_
          refine lv_topl (fun x25 ex25 => ?_)
          replace hf := hf x25 ex25
          refine lv_lstore (lv' := [(4, .long x25), (0, .ref v0), (2, .int v2), (3, .int x7), (6, .int x10), (7, .int x11)]) hx hb dX9_lastOffsetLeft_59 hl (by decide) rfl (fun ls hl => ?_)
          refine lv_aload_n hx hb dX9_lastOffsetLeft_61 rfl (lv_at hl 1 rfl) ?_
          obtain ⟨b26, hb26, hf⟩ := hf
          refine gm_getR (C := RX9) (T := TX9) (N := 7) (j := 6) hx hb hts inT_9 hown hK hW k1 (by decide) rfl (by decide) rfl (hts _ kw_224) rfl dX9_lastOffsetLeft_62 hb26 ?_
          obtain ⟨k27, hf⟩ := hf
          refine gm_getI (C := RX10) (T := TX10) (N := 8) (j := 6) hx hb hts inT_10 hown hK hW k27 (by decide) rfl (by decide) rfl (hts _ kw_90) rfl dX9_lastOffsetLeft_65 ?_
          refine lv_topi (fun x28 ex28 => ?_)
          replace hf := hf x28 ex28
          refine lv_istore (lv' := [(6, .int x28), (4, .long x25), (0, .ref v0), (2, .int v2), (3, .int x7), (7, .int x11)]) hx hb dX9_lastOffsetLeft_68 hl (by decide) rfl (fun ls hl => ?_)
          obtain ⟨x29, ex29⟩ : ∃ y : Int32, y = x11 + 1 := ⟨_, rfl⟩
          replace hf := hf x29 ex29
          refine lv_iinc (v := x29) (lv' := [(7, .int x29), (6, .int x28), (4, .long x25), (0, .ref v0), (2, .int v2), (3, .int x7)]) hx hb dX9_lastOffsetLeft_70 hl (k := 5) rfl (by rw [ex29]; rfl) (by decide) rfl (fun ls hl => ?_)
          refine lv_goto (tgt := 26) hx hb dX9_lastOffsetLeft_73 (by decide) ?_
          exact ih26 _ _ _ _ _ _ _ (lv_sub hl [3, 4, 5, 2, 1, 0] rfl) hW hS hf
  exact lp26 n26 _ _ _ _ _ _ _ (lv_sub hl [4, 6, 3, 2, 1, 0] rfl) hW hS hf

abbrev rm_X9_greatestOffset : Room := { frames := 6, cells := 0, slots := 0, locals := 185 }
def f_X9_greatestOffset_69 (Y : Ly) (Kn : Int64 → Mm → Prop) (r17 : Int64) (y18 : Int64) (M19 : Mm) : Prop :=
  Kn (r17 + y18) M19
def f_X9_greatestOffset_40 (Y : Ly) (v0 : Nat) (v1 : Int32) (Kn : Int64 → Mm → Prop) (r6 : Int32) (M10 : Mm) (r11 : Int32) (y12 : Int32) : Prop :=
  ∃ b13 : Nat, mR M10 v0 0 = some b13 ∧ (yK Y b13 = 3 ∧ (∃ b15 : Nat, mR M10 b13 0 = some b15 ∧ (f_X0_baseOf Y b15 v1 M10 (fun r17 M16 => ((y12 = 0 → (f_X9_lastOffsetLeft Y v0 v1 r6 M16 (fun r22 M21 => (f_X9_greatestOffset_69 Y Kn r17 r22 M21)))) ∧ (¬ (y12 = 0) → (f_X9_greatestOffset_69 Y Kn r17 r11.toInt64 M16)))))))
def f_X9_greatestOffset_35 (Y : Ly) (v0 : Nat) (v1 : Int32) (Kn : Int64 → Mm → Prop) (r6 : Int32) (M10 : Mm) (r11 : Int32) : Prop :=
  f_X9_greatestOffset_40 Y v0 v1 Kn r6 M10 r11 1
def f_X9_greatestOffset (Y : Ly) (v0 : Nat) (v1 : Int32) (M : Mm) (Kn : Int64 → Mm → Prop) : Prop :=
  yK Y v0 = 9 ∧ (∃ b2 : Nat, mR M v0 0 = some b2 ∧ (yK Y b2 = 3 ∧ (∃ b4 : Nat, mR M b2 0 = some b4 ∧ (f_X0_countOf Y b4 v1 M (fun r6 M5 => (∃ b7 : Nat, mR M5 v0 0 = some b7 ∧ (yK Y b7 = 3 ∧ (∃ b9 : Nat, mR M5 b7 0 = some b9 ∧ (f_X0_lastOf Y b9 v1 M5 (fun r11 M10 => ((r6 = 0 → (f_X9_greatestOffset_35 Y v0 v1 Kn r6 M10 r11)) ∧ (¬ (r6 = 0) → ((¬ r6 = (r11 + 1) → (f_X9_greatestOffset_40 Y v0 v1 Kn r6 M10 r11 0)) ∧ (r6 = (r11 + 1) → (f_X9_greatestOffset_35 Y v0 v1 Kn r6 M10 r11)))))))))))))))
set_option maxHeartbeats 4000000 in
set_option maxRecDepth 100000 in
theorem m_X9_greatestOffset (l : Launch) (D : va_G) (cy : Cy) (tq sz : Nat) (Y : Ly) (v0 : Nat) (v1 : Int32) (M : Mm) (Kn : Int64 → Mm → Prop) : Met l yX9_greatestOffset (Cond.code yX9_greatestOffset cX9_greatestOffset 5 (some .long) :: TT) rm_X9_greatestOffset (PcG D cy tq [.ref v0, .int v1] sz Y M (f_X9_greatestOffset Y v0 v1 M Kn)) (va_Ql Kn (BG D cy (Am Y sz) Y) (Am Y sz)) 0 0 (Am Y sz) := by
  refine Met.ofW (cc := cX9_greatestOffset) (maxL := 5) (ret := (some .long)) (by decide) rfl ?_
  intro p e s m args below meth c s₁ B hml hv
  obtain ⟨hargs, hsz, hW, hK, hC, hf⟩ := hv
  subst hsz
  have hx := B.exec
  have hb := B.bytes
  have hr := B.returns
  have hts : ∀ w ∈ TT, w.before args s = true := fun w h => atoms_spec (ws := Cond.code yX9_greatestOffset cX9_greatestOffset 5 (some .long) :: TT) B.pre w (List.mem_cons_of_mem _ h)
  have hown : s.vm.findClass RX9 = some m.cls := findClass_of_methodNamed B.named
  have hlocks := B.notSynchronized
  replace hW := Wd_self (sz := s.heap.size) hW
  generalize hAe : Am Y s.heap.size = A at hW hC ⊢
  have hA : ∀ q : Nat, s.heap.size ≤ q → A q := fun q h => by rw [← hAe]; exact Or.inr h
  clear hAe
  have hS : va_S A s.heap s.heap [] := va_S.rf
  obtain ⟨ls, hE, hl⟩ := gm_entry m [.ref v0, .int v1] (n := 5) hargs (Nat.le_of_ble_eq_true rfl)
  rw [hE]
  have hl : lv_has ls 5 [(0, .ref v0), (1, .int v1)] := hl
  show W p l e rm_X9_greatestOffset s m args below meth c s.heap [] 0 0 (MQ below (va_Ql Kn (BG D cy A Y) A) args s 0 0 A) (F0 m 0 ls [])
  unfold f_X9_greatestOffset at hf
  refine lv_aload_n hx hb dX9_greatestOffset_0 rfl (lv_at hl 0 rfl) ?_
  obtain ⟨k1, hf⟩ := hf
  obtain ⟨b2, hb2, hf⟩ := hf
  refine gm_getR (C := RX9) (T := TX9) (N := 7) (j := 0) hx hb hts inT_9 hown hK hW k1 (by decide) rfl (by decide) rfl (hts _ kw_213) rfl dX9_greatestOffset_1 hb2 ?_
  obtain ⟨k3, hf⟩ := hf
  obtain ⟨b4, hb4, hf⟩ := hf
  refine gm_getR (C := RX3) (T := TX3) (N := 4) (j := 0) hx hb hts inT_3 hown hK hW k3 (by decide) rfl (by decide) rfl (hts _ kw_144) rfl dX9_greatestOffset_4 hb4 ?_
  refine lv_iload_n hx hb dX9_greatestOffset_7 rfl (lv_at hl 1 rfl) ?_
  refine gm_ci (va_runS (As := [.ref b4, .int v1]) (rest := []) ⟨hx, hb, hml, hown, hts⟩ (m_X0_countOf l D cy tq _ Y _ _ _ _) (va_cwS 2 hts (good_S kw_915 kw_782 kw_20 kw_783) rfl rfl rfl (by decide +kernel) ⟨Nat.le_of_ble_eq_true rfl, Nat.le_of_ble_eq_true rfl⟩) (gm_preS hK hW hC hS hA hf) rfl rfl hl.1 rfl (lv_room (Nat.le_of_ble_eq_true rfl)) dX9_greatestOffset_8 ⟨Nat.le_of_ble_eq_true rfl, Nat.le_of_ble_eq_true rfl⟩) hW hS hA (fun r6 M5 H locs hW hS hf => ?_)
  refine lv_istore_n (lv' := [(2, .int r6), (0, .ref v0), (1, .int v1)]) hx hb dX9_greatestOffset_11 rfl hl (by decide) rfl (fun ls hl => ?_)
  refine lv_aload_n hx hb dX9_greatestOffset_12 rfl (lv_at hl 1 rfl) ?_
  obtain ⟨b7, hb7, hf⟩ := hf
  refine gm_getR (C := RX9) (T := TX9) (N := 7) (j := 0) hx hb hts inT_9 hown hK hW k1 (by decide) rfl (by decide) rfl (hts _ kw_213) rfl dX9_greatestOffset_13 hb7 ?_
  obtain ⟨k8, hf⟩ := hf
  obtain ⟨b9, hb9, hf⟩ := hf
  refine gm_getR (C := RX3) (T := TX3) (N := 4) (j := 0) hx hb hts inT_3 hown hK hW k8 (by decide) rfl (by decide) rfl (hts _ kw_144) rfl dX9_greatestOffset_16 hb9 ?_
  refine lv_iload_n hx hb dX9_greatestOffset_19 rfl (lv_at hl 2 rfl) ?_
  refine gm_ci (va_runS (As := [.ref b9, .int v1]) (rest := []) ⟨hx, hb, hml, hown, hts⟩ (m_X0_lastOf l D cy tq _ Y _ _ _ _) (va_cwS 2 hts (good_S kw_883 kw_792 kw_20 kw_793) rfl rfl rfl (by decide +kernel) ⟨Nat.le_of_ble_eq_true rfl, Nat.le_of_ble_eq_true rfl⟩) (gm_preS hK hW hC hS hA hf) rfl rfl hl.1 rfl (lv_room (Nat.le_of_ble_eq_true rfl)) dX9_greatestOffset_20 ⟨Nat.le_of_ble_eq_true rfl, Nat.le_of_ble_eq_true rfl⟩) hW hS hA (fun r11 M10 H locs hW hS hf => ?_)
  refine lv_istore_n (lv' := [(3, .int r11), (2, .int r6), (0, .ref v0), (1, .int v1)]) hx hb dX9_greatestOffset_23 rfl hl (by decide) rfl (fun ls hl => ?_)
  refine lv_iload_n hx hb dX9_greatestOffset_24 rfl (lv_at hl 1 rfl) ?_
  have j40 : ∀ (y12 : Int32) (H : Heap) (locs : List Loc) (ls : Array Slot), lv_has ls 5 [(0, .ref v0), (1, .int v1), (2, .int r6), (3, .int r11)] → Wd D cy A Y M10 H → va_S A s.heap H locs → f_X9_greatestOffset_40 Y v0 v1 Kn r6 M10 r11 y12 → W p l e rm_X9_greatestOffset s m args below meth c H locs 0 0 (MQ below (va_Ql Kn (BG D cy A Y) A) args s 0 0 A) (F0 m 40 ls [.int y12]) := by
    intro y12 H locs ls hl hW hS hf
    unfold f_X9_greatestOffset_40 at hf
    refine lv_istore (lv' := [(4, .int y12), (0, .ref v0), (1, .int v1), (2, .int r6), (3, .int r11)]) hx hb dX9_greatestOffset_40 hl (by decide) rfl (fun ls hl => ?_)
    refine lv_aload_n hx hb dX9_greatestOffset_42 rfl (lv_at hl 1 rfl) ?_
    obtain ⟨b13, hb13, hf⟩ := hf
    refine gm_getR (C := RX9) (T := TX9) (N := 7) (j := 0) hx hb hts inT_9 hown hK hW k1 (by decide) rfl (by decide) rfl (hts _ kw_213) rfl dX9_greatestOffset_43 hb13 ?_
    obtain ⟨k14, hf⟩ := hf
    obtain ⟨b15, hb15, hf⟩ := hf
    refine gm_getR (C := RX3) (T := TX3) (N := 4) (j := 0) hx hb hts inT_3 hown hK hW k14 (by decide) rfl (by decide) rfl (hts _ kw_144) rfl dX9_greatestOffset_46 hb15 ?_
    refine lv_iload_n hx hb dX9_greatestOffset_49 rfl (lv_at hl 2 rfl) ?_
    refine gm_cl (va_runS (As := [.ref b15, .int v1]) (rest := []) ⟨hx, hb, hml, hown, hts⟩ (m_X0_baseOf l D cy tq _ Y _ _ _ _) (va_cwS 2 hts (good_S kw_884 kw_788 kw_20 kw_789) rfl rfl rfl (by decide +kernel) ⟨Nat.le_of_ble_eq_true rfl, Nat.le_of_ble_eq_true rfl⟩) (gm_preS hK hW hC hS hA hf) rfl rfl hl.1 rfl (lv_room (Nat.le_of_ble_eq_true rfl)) dX9_greatestOffset_50 ⟨Nat.le_of_ble_eq_true rfl, Nat.le_of_ble_eq_true rfl⟩) hW hS hA (fun r17 M16 H locs hW hS hf => ?_)
    refine lv_iload hx hb dX9_greatestOffset_53 (lv_at hl 0 rfl) ?_
    have j69 : ∀ (y18 : Int64) (M19 : Mm) (H : Heap) (locs : List Loc) (ls : Array Slot), lv_has ls 5 [] → Wd D cy A Y M19 H → va_S A s.heap H locs → f_X9_greatestOffset_69 Y Kn r17 y18 M19 → W p l e rm_X9_greatestOffset s m args below meth c H locs 0 0 (MQ below (va_Ql Kn (BG D cy A Y) A) args s 0 0 A) (F0 m 69 ls [.long y18, .long r17]) := by
      intro y18 M19 H locs ls hl hW hS hf
      unfold f_X9_greatestOffset_69 at hf
      refine lv_ladd hx hb dX9_greatestOffset_69 ?_
      exact gm_lret hx hb hr hlocks hW hS hf dX9_greatestOffset_70
    refine lv_if_eq (tgt := 63) hx hb dX9_greatestOffset_55 (by decide) (fun c20 => ?_) (fun c20 => ?_)
    · replace hf := hf.1 c20
      refine lv_aload_n hx hb dX9_greatestOffset_63 rfl (lv_at hl 1 rfl) ?_
      refine lv_iload_n hx hb dX9_greatestOffset_64 rfl (lv_at hl 2 rfl) ?_
      refine lv_iload_n hx hb dX9_greatestOffset_65 rfl (lv_at hl 3 rfl) ?_
      refine gm_cl (va_runV (As := [.int v1, .int r6]) (rest := [.long r17]) ⟨hx, hb, hml, hown, hts⟩ (m_X9_lastOffsetLeft l D cy tq _ Y _ _ _ _ _) (cwV 2 hts (good_V kw_983 kw_984 kw_1803 kw_8 kw_985) rfl rfl rfl (by decide +kernel) ⟨Nat.le_of_ble_eq_true rfl, Nat.le_of_ble_eq_true rfl⟩) (gm_preV hK hW hC hS hA k1 (by decide) (q := (RX9, TX9, 7)) rfl rfl hf) rfl rfl hl.1 rfl (lv_room (Nat.le_of_ble_eq_true rfl)) dX9_greatestOffset_66 ⟨Nat.le_of_ble_eq_true rfl, Nat.le_of_ble_eq_true rfl⟩) hW hS hA (fun r22 M21 H locs hW hS hf => ?_)
      exact j69 _ _ _ _ _ (lv_sub hl [] rfl) hW hS hf
    · replace hf := hf.2 c20
      refine lv_iload_n hx hb dX9_greatestOffset_58 rfl (lv_at hl 4 rfl) ?_
      refine lv_i2l hx hb dX9_greatestOffset_59 rfl ?_
      refine lv_goto (tgt := 69) hx hb dX9_greatestOffset_60 (by decide) ?_
      exact j69 _ _ _ _ _ (lv_sub hl [] rfl) hW hS hf
  have j35 : ∀ (H : Heap) (locs : List Loc) (ls : Array Slot), lv_has ls 5 [(0, .ref v0), (1, .int v1), (2, .int r6), (3, .int r11)] → Wd D cy A Y M10 H → va_S A s.heap H locs → f_X9_greatestOffset_35 Y v0 v1 Kn r6 M10 r11  → W p l e rm_X9_greatestOffset s m args below meth c H locs 0 0 (MQ below (va_Ql Kn (BG D cy A Y) A) args s 0 0 A) (F0 m 35 ls []) := by
    intro  H locs ls hl hW hS hf
    unfold f_X9_greatestOffset_35 at hf
    refine lv_iconst (v := 1) hx hb dX9_greatestOffset_35 (by decide +kernel) ?_
    refine lv_goto (tgt := 40) hx hb dX9_greatestOffset_36 (by decide) ?_
    exact j40 _ _ _ _ (lv_sub hl [0, 1, 2, 3] rfl) hW hS hf
  refine lv_if_eq (tgt := 35) hx hb dX9_greatestOffset_25 (by decide) (fun c23 => ?_) (fun c23 => ?_)
  · replace hf := hf.1 c23
    exact j35  _ _ _ (lv_sub hl [2, 3, 1, 0] rfl) hW hS hf
  · replace hf := hf.2 c23
    refine lv_iload_n hx hb dX9_greatestOffset_28 rfl (lv_at hl 1 rfl) ?_
    refine lv_iload_n hx hb dX9_greatestOffset_29 rfl (lv_at hl 0 rfl) ?_
    refine lv_iconst (v := 1) hx hb dX9_greatestOffset_30 (by decide +kernel) ?_
    refine lv_iadd hx hb dX9_greatestOffset_31 ?_
    refine lv_icmp_ne (tgt := 39) hx hb dX9_greatestOffset_32 (by decide) (fun c24 => ?_) (fun c24 => ?_)
    · replace hf := hf.1 c24
      refine lv_iconst (v := 0) hx hb dX9_greatestOffset_39 (by decide +kernel) ?_
      exact j40 _ _ _ _ (lv_sub hl [2, 3, 1, 0] rfl) hW hS hf
    · replace hf := hf.2 c24
      exact j35  _ _ _ (lv_sub hl [2, 3, 1, 0] rfl) hW hS hf

abbrev rm_X9_firstReaching : Room := { frames := 7, cells := 0, slots := 0, locals := 209 }
def f_X9_firstReaching_34 (Y : Ly) (Kn : Int32 → Mm → Prop) (x1 : Int32) (M4 : Mm) : Prop :=
  Kn x1 M4
def L_X9_firstReaching_3 (Y : Ly) (v0 : Nat) (v1 : Nat) (v2 : Int64) (Kn : Int32 → Mm → Prop) (x1 : Int32) (M2 : Mm) (again3 : Int32 → Mm → Prop) : Prop :=
  yK Y v1 = 8 ∧ (((mI M2 v1 7) ≤ x1 → (f_X9_firstReaching_34 Y Kn x1 M2)) ∧ (¬ ((mI M2 v1 7) ≤ x1) → (∃ b6 : Nat, mR M2 v1 8 = some b6 ∧ (yK Y b6 = 101 ∧ (vp_in x1 (yN Y b6) ∧ (yK Y v0 = 9 ∧ (f_X9_greatestOffset Y v0 (mI M2 b6 x1.toNatClampNeg) M2 (fun r10 M9 => ((v2 ≤ r10 → (f_X9_firstReaching_34 Y Kn x1 M9)) ∧ (¬ (v2 ≤ r10) → (∀ x13 : Int32, x13 = x1 + 1 → (again3 x13 M9))))))))))))
def f_X9_firstReaching (Y : Ly) (v0 : Nat) (v1 : Nat) (v2 : Int64) (M : Mm) (Kn : Int32 → Mm → Prop) : Prop :=
  ∃ n, LOOP2 (L_X9_firstReaching_3 Y v0 v1 v2 Kn) n 0 M
set_option maxHeartbeats 4000000 in
set_option maxRecDepth 100000 in
theorem m_X9_firstReaching (l : Launch) (D : va_G) (cy : Cy) (tq sz : Nat) (Y : Ly) (v0 : Nat) (v1 : Nat) (v2 : Int64) (M : Mm) (Kn : Int32 → Mm → Prop) : Met l yX9_firstReaching (Cond.code yX9_firstReaching cX9_firstReaching 5 (some .int) :: TT) rm_X9_firstReaching (PcG D cy tq [.ref v0, .ref v1, .long v2] sz Y M (f_X9_firstReaching Y v0 v1 v2 M Kn)) (va_Qi Kn (BG D cy (Am Y sz) Y) (Am Y sz)) 0 0 (Am Y sz) := by
  refine Met.ofW (cc := cX9_firstReaching) (maxL := 5) (ret := (some .int)) (by decide) rfl ?_
  intro p e s m args below meth c s₁ B hml hv
  obtain ⟨hargs, hsz, hW, hK, hC, hf⟩ := hv
  subst hsz
  have hx := B.exec
  have hb := B.bytes
  have hr := B.returns
  have hts : ∀ w ∈ TT, w.before args s = true := fun w h => atoms_spec (ws := Cond.code yX9_firstReaching cX9_firstReaching 5 (some .int) :: TT) B.pre w (List.mem_cons_of_mem _ h)
  have hown : s.vm.findClass RX9 = some m.cls := findClass_of_methodNamed B.named
  have hlocks := B.notSynchronized
  replace hW := Wd_self (sz := s.heap.size) hW
  generalize hAe : Am Y s.heap.size = A at hW hC ⊢
  have hA : ∀ q : Nat, s.heap.size ≤ q → A q := fun q h => by rw [← hAe]; exact Or.inr h
  clear hAe
  have hS : va_S A s.heap s.heap [] := va_S.rf
  obtain ⟨ls, hE, hl⟩ := gm_entry m [.ref v0, .ref v1, .long v2] (n := 5) hargs (Nat.le_of_ble_eq_true rfl)
  rw [hE]
  have hl : lv_has ls 5 [(0, .ref v0), (1, .ref v1), (2, .long v2)] := hl
  show W p l e rm_X9_firstReaching s m args below meth c s.heap [] 0 0 (MQ below (va_Qi Kn (BG D cy A Y) A) args s 0 0 A) (F0 m 0 ls [])
  unfold f_X9_firstReaching at hf
  refine lv_iconst (v := 0) hx hb dX9_firstReaching_0 (by decide +kernel) ?_
  refine lv_istore (lv' := [(4, .int 0), (0, .ref v0), (1, .ref v1), (2, .long v2)]) hx hb dX9_firstReaching_1 hl (by decide) rfl (fun ls hl => ?_)
  obtain ⟨n3, hf⟩ := hf
  have lp3 : ∀ (n3 : Nat) (x1 : Int32) (M2 : Mm) (H : Heap) (locs : List Loc) (ls : Array Slot), lv_has ls 5 [(0, .ref v0), (1, .ref v1), (2, .long v2), (4, .int x1)] → Wd D cy A Y M2 H → va_S A s.heap H locs → LOOP2 (L_X9_firstReaching_3 Y v0 v1 v2 Kn) n3 x1 M2 → W p l e rm_X9_firstReaching s m args below meth c H locs 0 0 (MQ below (va_Qi Kn (BG D cy A Y) A) args s 0 0 A) (F0 m 3 ls []) := by
    intro n3
    induction n3 with
    | zero => intro x1 M2 H locs ls hl hW hS hf; exact hf.elim
    | succ n3 ih3 =>
      intro x1 M2 H locs ls hl hW hS hf
      replace hf : L_X9_firstReaching_3 Y v0 v1 v2 Kn x1 M2 (LOOP2 (L_X9_firstReaching_3 Y v0 v1 v2 Kn) n3) := hf
      unfold L_X9_firstReaching_3 at hf
      refine lv_iload hx hb dX9_firstReaching_3 (lv_at hl 3 rfl) ?_
      refine lv_aload_n hx hb dX9_firstReaching_5 rfl (lv_at hl 1 rfl) ?_
      obtain ⟨k3, hf⟩ := hf
      refine gm_getI (C := RX8) (T := TX8) (N := 9) (j := 7) hx hb hts inT_8 hown hK hW k3 (by decide) rfl (by decide) rfl (hts _ kw_192) rfl dX9_firstReaching_6 ?_
      have j34 : ∀ (M4 : Mm) (H : Heap) (locs : List Loc) (ls : Array Slot), lv_has ls 5 [(4, .int x1)] → Wd D cy A Y M4 H → va_S A s.heap H locs → f_X9_firstReaching_34 Y Kn x1 M4 → W p l e rm_X9_firstReaching s m args below meth c H locs 0 0 (MQ below (va_Qi Kn (BG D cy A Y) A) args s 0 0 A) (F0 m 34 ls []) := by
        intro M4 H locs ls hl hW hS hf
        unfold f_X9_firstReaching_34 at hf
        refine lv_iload hx hb dX9_firstReaching_34 (lv_at hl 0 rfl) ?_
        exact gm_iret hx hb hr hlocks hW hS hf dX9_firstReaching_36
      refine lv_icmp_ge (tgt := 34) hx hb dX9_firstReaching_9 (by decide) (fun c5 => ?_) (fun c5 => ?_)
      · replace hf := hf.1 c5
        exact j34 _ _ _ _ (lv_sub hl [3] rfl) hW hS hf
      · replace hf := hf.2 c5
        refine lv_aload_n hx hb dX9_firstReaching_12 rfl (lv_at hl 0 rfl) ?_
        refine lv_aload_n hx hb dX9_firstReaching_13 rfl (lv_at hl 1 rfl) ?_
        obtain ⟨b6, hb6, hf⟩ := hf
        refine gm_getR (C := RX8) (T := TX8) (N := 9) (j := 8) hx hb hts inT_8 hown hK hW k3 (by decide) rfl (by decide) rfl (hts _ kw_197) rfl dX9_firstReaching_14 hb6 ?_
        refine lv_iload hx hb dX9_firstReaching_17 (lv_at hl 3 rfl) ?_
        obtain ⟨k7, hf⟩ := hf
        obtain ⟨h8, hf⟩ := hf
        refine gm_iald hx hb hK hW k7 h8 dX9_firstReaching_19 ?_
        obtain ⟨k11, hf⟩ := hf
        refine gm_cl (va_runV (As := [.int (mI M2 b6 x1.toNatClampNeg)]) (rest := []) ⟨hx, hb, hml, hown, hts⟩ (m_X9_greatestOffset l D cy tq _ Y _ _ _ _) (cwV 1 hts (good_V kw_980 kw_981 kw_1802 kw_8 kw_982) rfl rfl rfl (by decide +kernel) ⟨Nat.le_of_ble_eq_true rfl, Nat.le_of_ble_eq_true rfl⟩) (gm_preV hK hW hC hS hA k11 (by decide) (q := (RX9, TX9, 7)) rfl rfl hf) rfl rfl hl.1 rfl (lv_room (Nat.le_of_ble_eq_true rfl)) dX9_firstReaching_20 ⟨Nat.le_of_ble_eq_true rfl, Nat.le_of_ble_eq_true rfl⟩) hW hS hA (fun r10 M9 H locs hW hS hf => ?_)
        refine lv_lload_n hx hb dX9_firstReaching_23 rfl (lv_at hl 2 rfl) ?_
        refine W.lcmp hx hb dX9_firstReaching_24 ?_
        refine lv_if_ge (tgt := 34) hx hb dX9_firstReaching_25 (by decide) (fun c12 => ?_) (fun c12 => ?_)
        · replace hf := hf.1 (lg_ge.mp c12)
          exact j34 _ _ _ _ (lv_sub hl [3] rfl) hW hS hf
        · replace hf := hf.2 (fun z => c12 (lg_ge.mpr z))
          obtain ⟨x13, ex13⟩ : ∃ y : Int32, y = x1 + 1 := ⟨_, rfl⟩
          replace hf := hf x13 ex13
          refine lv_iinc (v := x13) (lv' := [(4, .int x13), (0, .ref v0), (1, .ref v1), (2, .long v2)]) hx hb dX9_firstReaching_28 hl (k := 3) rfl (by rw [ex13]; rfl) (by decide) rfl (fun ls hl => ?_)
          refine lv_goto (tgt := 3) hx hb dX9_firstReaching_31 (by decide) ?_
          exact ih3 _ _ _ _ _ (lv_sub hl [1, 2, 3, 0] rfl) hW hS hf
  exact lp3 n3 _ _ _ _ _ (lv_sub hl [1, 2, 3, 0] rfl) hW hS hf

abbrev rm_X9_firstSinceIn : Room := { frames := 5, cells := 0, slots := 0, locals := 158 }
def f_X9_firstSinceIn_128 (Y : Ly) (Kn : Int64 → Mm → Prop) (M22 : Mm) : Prop :=
  Kn (-1) M22
def L_X9_firstSinceIn_50 (Y : Ly) (v0 : Nat) (v1 : Int32) (v2 : Int64) (Kn : Int64 → Mm → Prop) (r6 : Int32) (x12 : Int32) (r17 : Int64) (x19 : Int32) (x20 : Int32) (M21 : Mm) (again50 : Int32 → Int32 → Mm → Prop) : Prop :=
  (r6 ≤ x20 → (f_X9_firstSinceIn_128 Y Kn M21)) ∧ (¬ (r6 ≤ x20) → (∃ b24 : Nat, mR M21 v0 6 = some b24 ∧ (∃ b25 : Nat, mR M21 v0 0 = some b25 ∧ (yK Y b25 = 3 ∧ (∃ b27 : Nat, mR M21 b25 0 = some b27 ∧ (yK Y b24 = 10 ∧ (f_X10_read Y b24 b27 x19 x12 M21 (fun r29 M28 => ((r29 = 0 → (f_X9_firstSinceIn_128 Y Kn M28)) ∧ (¬ (r29 = 0) → (∃ b32 : Nat, mR M28 v0 6 = some b32 ∧ (yK Y b32 = 10 ∧ (((r17 + (mJ M28 b32 0)) < v2 → (∃ b35 : Nat, mR M28 v0 6 = some b35 ∧ (yK Y b35 = 10 ∧ (∀ x37 : Int32, x37 = mI M28 b35 6 → (∀ x38 : Int32, x38 = x20 + 1 → (again50 x37 x38 M28)))))) ∧ (¬ ((r17 + (mJ M28 b32 0)) < v2) → (∃ b39 : Nat, mR M28 v0 0 = some b39 ∧ (yK Y b39 = 3 ∧ (∃ b41 : Nat, mR M28 b39 0 = some b41 ∧ (f_X0_baseOf Y b41 v1 M28 (fun r43 M42 => (∃ b44 : Nat, mR M42 v0 6 = some b44 ∧ (yK Y b44 = 10 ∧ (Kn (r43 + (mJ M42 b44 1)) M42))))))))))))))))))))))
def f_X9_firstSinceIn (Y : Ly) (v0 : Nat) (v1 : Int32) (v2 : Int64) (M : Mm) (Kn : Int64 → Mm → Prop) : Prop :=
  yK Y v0 = 9 ∧ (∃ b2 : Nat, mR M v0 0 = some b2 ∧ (yK Y b2 = 3 ∧ (∃ b4 : Nat, mR M b2 0 = some b4 ∧ (f_X0_countOf Y b4 v1 M (fun r6 M5 => (∃ b7 : Nat, mR M5 v0 0 = some b7 ∧ (yK Y b7 = 3 ∧ (∃ b9 : Nat, mR M5 b7 0 = some b9 ∧ (f_X0_sizeOf Y b9 v1 M5 (fun r11 M10 => (∀ x12 : Int32, x12 = v1 + r11 → (∃ b13 : Nat, mR M10 v0 0 = some b13 ∧ (yK Y b13 = 3 ∧ (∃ b15 : Nat, mR M10 b13 0 = some b15 ∧ (f_X0_firstTimeOf Y b15 v1 M10 (fun r17 M16 => (∀ x18 : Int32, x18 = v1 + 61 → (∃ n, LOOP3 (L_X9_firstSinceIn_50 Y v0 v1 v2 Kn r6 x12 r17) n x18 0 M16))))))))))))))))))
set_option maxHeartbeats 4000000 in
set_option maxRecDepth 100000 in
theorem m_X9_firstSinceIn (l : Launch) (D : va_G) (cy : Cy) (tq sz : Nat) (Y : Ly) (v0 : Nat) (v1 : Int32) (v2 : Int64) (M : Mm) (Kn : Int64 → Mm → Prop) : Met l yX9_firstSinceIn (Cond.code yX9_firstSinceIn cX9_firstSinceIn 10 (some .long) :: TT) rm_X9_firstSinceIn (PcG D cy tq [.ref v0, .int v1, .long v2] sz Y M (f_X9_firstSinceIn Y v0 v1 v2 M Kn)) (va_Ql Kn (BG D cy (Am Y sz) Y) (Am Y sz)) 0 0 (Am Y sz) := by
  refine Met.ofW (cc := cX9_firstSinceIn) (maxL := 10) (ret := (some .long)) (by decide) rfl ?_
  intro p e s m args below meth c s₁ B hml hv
  obtain ⟨hargs, hsz, hW, hK, hC, hf⟩ := hv
  subst hsz
  have hx := B.exec
  have hb := B.bytes
  have hr := B.returns
  have hts : ∀ w ∈ TT, w.before args s = true := fun w h => atoms_spec (ws := Cond.code yX9_firstSinceIn cX9_firstSinceIn 10 (some .long) :: TT) B.pre w (List.mem_cons_of_mem _ h)
  have hown : s.vm.findClass RX9 = some m.cls := findClass_of_methodNamed B.named
  have hlocks := B.notSynchronized
  replace hW := Wd_self (sz := s.heap.size) hW
  generalize hAe : Am Y s.heap.size = A at hW hC ⊢
  have hA : ∀ q : Nat, s.heap.size ≤ q → A q := fun q h => by rw [← hAe]; exact Or.inr h
  clear hAe
  have hS : va_S A s.heap s.heap [] := va_S.rf
  obtain ⟨ls, hE, hl⟩ := gm_entry m [.ref v0, .int v1, .long v2] (n := 10) hargs (Nat.le_of_ble_eq_true rfl)
  rw [hE]
  have hl : lv_has ls 10 [(0, .ref v0), (1, .int v1), (2, .long v2)] := hl
  show W p l e rm_X9_firstSinceIn s m args below meth c s.heap [] 0 0 (MQ below (va_Ql Kn (BG D cy A Y) A) args s 0 0 A) (F0 m 0 ls [])
  unfold f_X9_firstSinceIn at hf
  refine lv_aload_n hx hb dX9_firstSinceIn_0 rfl (lv_at hl 0 rfl) ?_
  obtain ⟨k1, hf⟩ := hf
  obtain ⟨b2, hb2, hf⟩ := hf
  refine gm_getR (C := RX9) (T := TX9) (N := 7) (j := 0) hx hb hts inT_9 hown hK hW k1 (by decide) rfl (by decide) rfl (hts _ kw_213) rfl dX9_firstSinceIn_1 hb2 ?_
  obtain ⟨k3, hf⟩ := hf
  obtain ⟨b4, hb4, hf⟩ := hf
  refine gm_getR (C := RX3) (T := TX3) (N := 4) (j := 0) hx hb hts inT_3 hown hK hW k3 (by decide) rfl (by decide) rfl (hts _ kw_144) rfl dX9_firstSinceIn_4 hb4 ?_
  refine lv_iload_n hx hb dX9_firstSinceIn_7 rfl (lv_at hl 1 rfl) ?_
  refine gm_ci (va_runS (As := [.ref b4, .int v1]) (rest := []) ⟨hx, hb, hml, hown, hts⟩ (m_X0_countOf l D cy tq _ Y _ _ _ _) (va_cwS 2 hts (good_S kw_915 kw_782 kw_20 kw_783) rfl rfl rfl (by decide +kernel) ⟨Nat.le_of_ble_eq_true rfl, Nat.le_of_ble_eq_true rfl⟩) (gm_preS hK hW hC hS hA hf) rfl rfl hl.1 rfl (lv_room (Nat.le_of_ble_eq_true rfl)) dX9_firstSinceIn_8 ⟨Nat.le_of_ble_eq_true rfl, Nat.le_of_ble_eq_true rfl⟩) hW hS hA (fun r6 M5 H locs hW hS hf => ?_)
  refine lv_istore (lv' := [(4, .int r6), (0, .ref v0), (1, .int v1), (2, .long v2)]) hx hb dX9_firstSinceIn_11 hl (by decide) rfl (fun ls hl => ?_)
  refine lv_iload_n hx hb dX9_firstSinceIn_13 rfl (lv_at hl 2 rfl) ?_
  refine lv_aload_n hx hb dX9_firstSinceIn_14 rfl (lv_at hl 1 rfl) ?_
  obtain ⟨b7, hb7, hf⟩ := hf
  refine gm_getR (C := RX9) (T := TX9) (N := 7) (j := 0) hx hb hts inT_9 hown hK hW k1 (by decide) rfl (by decide) rfl (hts _ kw_213) rfl dX9_firstSinceIn_15 hb7 ?_
  obtain ⟨k8, hf⟩ := hf
  obtain ⟨b9, hb9, hf⟩ := hf
  refine gm_getR (C := RX3) (T := TX3) (N := 4) (j := 0) hx hb hts inT_3 hown hK hW k8 (by decide) rfl (by decide) rfl (hts _ kw_144) rfl dX9_firstSinceIn_18 hb9 ?_
  refine lv_iload_n hx hb dX9_firstSinceIn_21 rfl (lv_at hl 2 rfl) ?_
  refine gm_ci (va_runS (As := [.ref b9, .int v1]) (rest := [.int v1]) ⟨hx, hb, hml, hown, hts⟩ (m_X0_sizeOf l D cy tq _ Y _ _ _ _) (va_cwS 2 hts (good_S kw_354 kw_355 kw_20 kw_356) rfl rfl rfl (by decide +kernel) ⟨Nat.le_of_ble_eq_true rfl, Nat.le_of_ble_eq_true rfl⟩) (gm_preS hK hW hC hS hA hf) rfl rfl hl.1 rfl (lv_room (Nat.le_of_ble_eq_true rfl)) dX9_firstSinceIn_22 ⟨Nat.le_of_ble_eq_true rfl, Nat.le_of_ble_eq_true rfl⟩) hW hS hA (fun r11 M10 H locs hW hS hf => ?_)
  refine lv_iadd hx hb dX9_firstSinceIn_25 ?_
  refine lv_topi (fun x12 ex12 => ?_)
  replace hf := hf x12 ex12
  refine lv_istore (lv' := [(5, .int x12), (4, .int r6), (0, .ref v0), (1, .int v1), (2, .long v2)]) hx hb dX9_firstSinceIn_26 hl (by decide) rfl (fun ls hl => ?_)
  refine lv_aload_n hx hb dX9_firstSinceIn_28 rfl (lv_at hl 2 rfl) ?_
  obtain ⟨b13, hb13, hf⟩ := hf
  refine gm_getR (C := RX9) (T := TX9) (N := 7) (j := 0) hx hb hts inT_9 hown hK hW k1 (by decide) rfl (by decide) rfl (hts _ kw_213) rfl dX9_firstSinceIn_29 hb13 ?_
  obtain ⟨k14, hf⟩ := hf
  obtain ⟨b15, hb15, hf⟩ := hf
  refine gm_getR (C := RX3) (T := TX3) (N := 4) (j := 0) hx hb hts inT_3 hown hK hW k14 (by decide) rfl (by decide) rfl (hts _ kw_144) rfl dX9_firstSinceIn_32 hb15 ?_
  refine lv_iload_n hx hb dX9_firstSinceIn_35 rfl (lv_at hl 3 rfl) ?_
  refine gm_cl (va_runS (As := [.ref b15, .int v1]) (rest := []) ⟨hx, hb, hml, hown, hts⟩ (m_X0_firstTimeOf l D cy tq _ Y _ _ _ _) (va_cwS 2 hts (good_S kw_1044 kw_795 kw_20 kw_796) rfl rfl rfl (by decide +kernel) ⟨Nat.le_of_ble_eq_true rfl, Nat.le_of_ble_eq_true rfl⟩) (gm_preS hK hW hC hS hA hf) rfl rfl hl.1 rfl (lv_room (Nat.le_of_ble_eq_true rfl)) dX9_firstSinceIn_36 ⟨Nat.le_of_ble_eq_true rfl, Nat.le_of_ble_eq_true rfl⟩) hW hS hA (fun r17 M16 H locs hW hS hf => ?_)
  refine lv_lstore (lv' := [(6, .long r17), (5, .int x12), (4, .int r6), (0, .ref v0), (1, .int v1), (2, .long v2)]) hx hb dX9_firstSinceIn_39 hl (by decide) rfl (fun ls hl => ?_)
  refine lv_iload_n hx hb dX9_firstSinceIn_41 rfl (lv_at hl 4 rfl) ?_
  refine lv_bipush (v := 61) hx hb dX9_firstSinceIn_42 (by decide +kernel) ?_
  refine lv_iadd hx hb dX9_firstSinceIn_44 ?_
  refine lv_topi (fun x18 ex18 => ?_)
  replace hf := hf x18 ex18
  refine lv_istore (lv' := [(8, .int x18), (6, .long r17), (5, .int x12), (4, .int r6), (0, .ref v0), (1, .int v1), (2, .long v2)]) hx hb dX9_firstSinceIn_45 hl (by decide) rfl (fun ls hl => ?_)
  refine lv_iconst (v := 0) hx hb dX9_firstSinceIn_47 (by decide +kernel) ?_
  refine lv_istore (lv' := [(9, .int 0), (8, .int x18), (6, .long r17), (5, .int x12), (4, .int r6), (0, .ref v0), (1, .int v1), (2, .long v2)]) hx hb dX9_firstSinceIn_48 hl (by decide) rfl (fun ls hl => ?_)
  obtain ⟨n50, hf⟩ := hf
  have lp50 : ∀ (n50 : Nat) (x19 : Int32) (x20 : Int32) (M21 : Mm) (H : Heap) (locs : List Loc) (ls : Array Slot), lv_has ls 10 [(0, .ref v0), (1, .int v1), (2, .long v2), (4, .int r6), (5, .int x12), (6, .long r17), (8, .int x19), (9, .int x20)] → Wd D cy A Y M21 H → va_S A s.heap H locs → LOOP3 (L_X9_firstSinceIn_50 Y v0 v1 v2 Kn r6 x12 r17) n50 x19 x20 M21 → W p l e rm_X9_firstSinceIn s m args below meth c H locs 0 0 (MQ below (va_Ql Kn (BG D cy A Y) A) args s 0 0 A) (F0 m 50 ls []) := by
    intro n50
    induction n50 with
    | zero => intro x19 x20 M21 H locs ls hl hW hS hf; exact hf.elim
    | succ n50 ih50 =>
      intro x19 x20 M21 H locs ls hl hW hS hf
      replace hf : L_X9_firstSinceIn_50 Y v0 v1 v2 Kn r6 x12 r17 x19 x20 M21 (LOOP3 (L_X9_firstSinceIn_50 Y v0 v1 v2 Kn r6 x12 r17) n50) := hf
      unfold L_X9_firstSinceIn_50 at hf
      refine lv_iload hx hb dX9_firstSinceIn_50 (lv_at hl 7 rfl) ?_
      refine lv_iload hx hb dX9_firstSinceIn_52 (lv_at hl 3 rfl) ?_
      have j128 : ∀ (M22 : Mm) (H : Heap) (locs : List Loc) (ls : Array Slot), lv_has ls 10 [] → Wd D cy A Y M22 H → va_S A s.heap H locs → f_X9_firstSinceIn_128 Y Kn M22 → W p l e rm_X9_firstSinceIn s m args below meth c H locs 0 0 (MQ below (va_Ql Kn (BG D cy A Y) A) args s 0 0 A) (F0 m 128 ls []) := by
        intro M22 H locs ls hl hW hS hf
        unfold f_X9_firstSinceIn_128 at hf
        refine lv_ldc2 (v := -1) hx hb hown (hts _ kw_876) dX9_firstSinceIn_128 ?_
        exact gm_lret hx hb hr hlocks hW hS hf dX9_firstSinceIn_131
      refine lv_icmp_ge (tgt := 128) hx hb dX9_firstSinceIn_54 (by decide) (fun c23 => ?_) (fun c23 => ?_)
      · replace hf := hf.1 c23
        exact j128 _ _ _ _ (lv_sub hl [] rfl) hW hS hf
      · replace hf := hf.2 c23
        refine lv_aload_n hx hb dX9_firstSinceIn_57 rfl (lv_at hl 0 rfl) ?_
        obtain ⟨b24, hb24, hf⟩ := hf
        refine gm_getR (C := RX9) (T := TX9) (N := 7) (j := 6) hx hb hts inT_9 hown hK hW k1 (by decide) rfl (by decide) rfl (hts _ kw_224) rfl dX9_firstSinceIn_58 hb24 ?_
        refine lv_aload_n hx hb dX9_firstSinceIn_61 rfl (lv_at hl 0 rfl) ?_
        obtain ⟨b25, hb25, hf⟩ := hf
        refine gm_getR (C := RX9) (T := TX9) (N := 7) (j := 0) hx hb hts inT_9 hown hK hW k1 (by decide) rfl (by decide) rfl (hts _ kw_213) rfl dX9_firstSinceIn_62 hb25 ?_
        obtain ⟨k26, hf⟩ := hf
        obtain ⟨b27, hb27, hf⟩ := hf
        refine gm_getR (C := RX3) (T := TX3) (N := 4) (j := 0) hx hb hts inT_3 hown hK hW k26 (by decide) rfl (by decide) rfl (hts _ kw_144) rfl dX9_firstSinceIn_65 hb27 ?_
        refine lv_iload hx hb dX9_firstSinceIn_68 (lv_at hl 6 rfl) ?_
        refine lv_iload hx hb dX9_firstSinceIn_70 (lv_at hl 4 rfl) ?_
        obtain ⟨k30, hf⟩ := hf
        refine gm_ci (va_runV (As := [.ref b27, .int x19, .int x12]) (rest := []) ⟨hx, hb, hml, hown, hts⟩ (m_X10_read l D cy tq _ Y _ _ _ _ _ _) (cwV 3 hts (good_V kw_986 kw_819 kw_820 kw_4 kw_821) rfl rfl rfl (by decide +kernel) ⟨Nat.le_of_ble_eq_true rfl, Nat.le_of_ble_eq_true rfl⟩) (gm_preV hK hW hC hS hA k30 (by decide) (q := (RX10, TX10, 8)) rfl rfl hf) rfl rfl hl.1 rfl (lv_room (Nat.le_of_ble_eq_true rfl)) dX9_firstSinceIn_72 ⟨Nat.le_of_ble_eq_true rfl, Nat.le_of_ble_eq_true rfl⟩) hW hS hA (fun r29 M28 H locs hW hS hf => ?_)
        refine lv_if_eq (tgt := 128) hx hb dX9_firstSinceIn_75 (by decide) (fun c31 => ?_) (fun c31 => ?_)
        · replace hf := hf.1 c31
          exact j128 _ _ _ _ (lv_sub hl [] rfl) hW hS hf
        · replace hf := hf.2 c31
          refine lv_lload hx hb dX9_firstSinceIn_78 (lv_at hl 5 rfl) ?_
          refine lv_aload_n hx hb dX9_firstSinceIn_80 rfl (lv_at hl 0 rfl) ?_
          obtain ⟨b32, hb32, hf⟩ := hf
          refine gm_getR (C := RX9) (T := TX9) (N := 7) (j := 6) hx hb hts inT_9 hown hK hW k1 (by decide) rfl (by decide) rfl (hts _ kw_224) rfl dX9_firstSinceIn_81 hb32 ?_
          obtain ⟨k33, hf⟩ := hf
          refine gm_getJ (C := RX10) (T := TX10) (N := 8) (j := 0) hx hb hts inT_10 hown hK hW k33 (by decide) rfl (by decide) rfl (hts _ kw_70) rfl dX9_firstSinceIn_84 ?_
          refine lv_ladd hx hb dX9_firstSinceIn_87 ?_
          refine lv_lload_n hx hb dX9_firstSinceIn_88 rfl (lv_at hl 2 rfl) ?_
          refine W.lcmp hx hb dX9_firstSinceIn_89 ?_
          refine lv_if_lt (tgt := 113) hx hb dX9_firstSinceIn_90 (by decide) (fun c34 => ?_) (fun c34 => ?_)
          · replace hf := hf.1 (lg_lt.mp c34)
            refine lv_aload_n hx hb dX9_firstSinceIn_113 rfl (lv_at hl 0 rfl) ?_
            obtain ⟨b35, hb35, hf⟩ := hf
            refine gm_getR (C := RX9) (T := TX9) (N := 7) (j := 6) hx hb hts inT_9 hown hK hW k1 (by decide) rfl (by decide) rfl (hts _ kw_224) rfl dX9_firstSinceIn_114 hb35 ?_
            obtain ⟨k36, hf⟩ := hf
            refine gm_getI (C := RX10) (T := TX10) (N := 8) (j := 6) hx hb hts inT_10 hown hK hW k36 (by decide) rfl (by decide) rfl (hts _ kw_90) rfl dX9_firstSinceIn_117 ?_
            refine lv_topi (fun x37 ex37 => ?_)
            replace hf := hf x37 ex37
            refine lv_istore (lv' := [(8, .int x37), (0, .ref v0), (1, .int v1), (2, .long v2), (4, .int r6), (5, .int x12), (6, .long r17), (9, .int x20)]) hx hb dX9_firstSinceIn_120 hl (by decide) rfl (fun ls hl => ?_)
            obtain ⟨x38, ex38⟩ : ∃ y : Int32, y = x20 + 1 := ⟨_, rfl⟩
            replace hf := hf x38 ex38
            refine lv_iinc (v := x38) (lv' := [(9, .int x38), (8, .int x37), (0, .ref v0), (1, .int v1), (2, .long v2), (4, .int r6), (5, .int x12), (6, .long r17)]) hx hb dX9_firstSinceIn_122 hl (k := 7) rfl (by rw [ex38]; rfl) (by decide) rfl (fun ls hl => ?_)
            refine lv_goto (tgt := 50) hx hb dX9_firstSinceIn_125 (by decide) ?_
            exact ih50 _ _ _ _ _ _ (lv_sub hl [2, 3, 4, 5, 6, 7, 1, 0] rfl) hW hS hf
          · replace hf := hf.2 (fun z => c34 (lg_lt.mpr z))
            refine lv_aload_n hx hb dX9_firstSinceIn_93 rfl (lv_at hl 0 rfl) ?_
            obtain ⟨b39, hb39, hf⟩ := hf
            refine gm_getR (C := RX9) (T := TX9) (N := 7) (j := 0) hx hb hts inT_9 hown hK hW k1 (by decide) rfl (by decide) rfl (hts _ kw_213) rfl dX9_firstSinceIn_94 hb39 ?_
            obtain ⟨k40, hf⟩ := hf
            obtain ⟨b41, hb41, hf⟩ := hf
            refine gm_getR (C := RX3) (T := TX3) (N := 4) (j := 0) hx hb hts inT_3 hown hK hW k40 (by decide) rfl (by decide) rfl (hts _ kw_144) rfl dX9_firstSinceIn_97 hb41 ?_
            refine lv_iload_n hx hb dX9_firstSinceIn_100 rfl (lv_at hl 1 rfl) ?_
            refine gm_cl (va_runS (As := [.ref b41, .int v1]) (rest := []) ⟨hx, hb, hml, hown, hts⟩ (m_X0_baseOf l D cy tq _ Y _ _ _ _) (va_cwS 2 hts (good_S kw_884 kw_788 kw_20 kw_789) rfl rfl rfl (by decide +kernel) ⟨Nat.le_of_ble_eq_true rfl, Nat.le_of_ble_eq_true rfl⟩) (gm_preS hK hW hC hS hA hf) rfl rfl hl.1 rfl (lv_room (Nat.le_of_ble_eq_true rfl)) dX9_firstSinceIn_101 ⟨Nat.le_of_ble_eq_true rfl, Nat.le_of_ble_eq_true rfl⟩) hW hS hA (fun r43 M42 H locs hW hS hf => ?_)
            refine lv_aload_n hx hb dX9_firstSinceIn_104 rfl (lv_at hl 0 rfl) ?_
            obtain ⟨b44, hb44, hf⟩ := hf
            refine gm_getR (C := RX9) (T := TX9) (N := 7) (j := 6) hx hb hts inT_9 hown hK hW k1 (by decide) rfl (by decide) rfl (hts _ kw_224) rfl dX9_firstSinceIn_105 hb44 ?_
            obtain ⟨k45, hf⟩ := hf
            refine gm_getJ (C := RX10) (T := TX10) (N := 8) (j := 1) hx hb hts inT_10 hown hK hW k45 (by decide) rfl (by decide) rfl (hts _ kw_74) rfl dX9_firstSinceIn_108 ?_
            refine lv_ladd hx hb dX9_firstSinceIn_111 ?_
            exact gm_lret hx hb hr hlocks hW hS hf dX9_firstSinceIn_112
  exact lp50 n50 _ _ _ _ _ _ (lv_sub hl [5, 6, 7, 4, 3, 2, 1, 0] rfl) hW hS hf

abbrev rm_X9_firstSince : Room := { frames := 6, cells := 0, slots := 0, locals := 187 }
def f_X9_firstSince_60 (Y : Ly) (x1 : Int32) (again3 : Int32 → Mm → Prop) (M14 : Mm) : Prop :=
  ∀ x15 : Int32, x15 = x1 + 1 → (again3 x15 M14)
def L_X9_firstSince_3 (Y : Ly) (v0 : Nat) (v1 : Nat) (v2 : Int64) (Kn : Int64 → Mm → Prop) (x1 : Int32) (M2 : Mm) (again3 : Int32 → Mm → Prop) : Prop :=
  yK Y v1 = 8 ∧ (((mI M2 v1 7) ≤ x1 → (Kn (-1) M2)) ∧ (¬ ((mI M2 v1 7) ≤ x1) → (yK Y v0 = 9 ∧ (∃ b6 : Nat, mR M2 v0 0 = some b6 ∧ (yK Y b6 = 3 ∧ (∃ b8 : Nat, mR M2 b6 0 = some b8 ∧ (∃ b9 : Nat, mR M2 v1 8 = some b9 ∧ (yK Y b9 = 101 ∧ (vp_in x1 (yN Y b9) ∧ (f_X0_greatestTimeOf Y b8 (mI M2 b9 x1.toNatClampNeg) M2 (fun r13 M12 => ((r13 < v2 → (f_X9_firstSince_60 Y x1 again3 M12)) ∧ (¬ (r13 < v2) → (∃ b17 : Nat, mR M12 v1 8 = some b17 ∧ (yK Y b17 = 101 ∧ (vp_in x1 (yN Y b17) ∧ (f_X9_firstSinceIn Y v0 (mI M12 b17 x1.toNatClampNeg) v2 M12 (fun r21 M20 => ((r21 = (-1) → (f_X9_firstSince_60 Y x1 again3 M20)) ∧ (¬ (r21 = (-1)) → (Kn r21 M20)))))))))))))))))))))
def f_X9_firstSince (Y : Ly) (v0 : Nat) (v1 : Nat) (v2 : Int64) (M : Mm) (Kn : Int64 → Mm → Prop) : Prop :=
  ∃ n, LOOP2 (L_X9_firstSince_3 Y v0 v1 v2 Kn) n 0 M
set_option maxHeartbeats 4000000 in
set_option maxRecDepth 100000 in
theorem m_X9_firstSince (l : Launch) (D : va_G) (cy : Cy) (tq sz : Nat) (Y : Ly) (v0 : Nat) (v1 : Nat) (v2 : Int64) (M : Mm) (Kn : Int64 → Mm → Prop) : Met l yX9_firstSince (Cond.code yX9_firstSince cX9_firstSince 7 (some .long) :: TT) rm_X9_firstSince (PcG D cy tq [.ref v0, .ref v1, .long v2] sz Y M (f_X9_firstSince Y v0 v1 v2 M Kn)) (va_Ql Kn (BG D cy (Am Y sz) Y) (Am Y sz)) 0 0 (Am Y sz) := by
  refine Met.ofW (cc := cX9_firstSince) (maxL := 7) (ret := (some .long)) (by decide) rfl ?_
  intro p e s m args below meth c s₁ B hml hv
  obtain ⟨hargs, hsz, hW, hK, hC, hf⟩ := hv
  subst hsz
  have hx := B.exec
  have hb := B.bytes
  have hr := B.returns
  have hts : ∀ w ∈ TT, w.before args s = true := fun w h => atoms_spec (ws := Cond.code yX9_firstSince cX9_firstSince 7 (some .long) :: TT) B.pre w (List.mem_cons_of_mem _ h)
  have hown : s.vm.findClass RX9 = some m.cls := findClass_of_methodNamed B.named
  have hlocks := B.notSynchronized
  replace hW := Wd_self (sz := s.heap.size) hW
  generalize hAe : Am Y s.heap.size = A at hW hC ⊢
  have hA : ∀ q : Nat, s.heap.size ≤ q → A q := fun q h => by rw [← hAe]; exact Or.inr h
  clear hAe
  have hS : va_S A s.heap s.heap [] := va_S.rf
  obtain ⟨ls, hE, hl⟩ := gm_entry m [.ref v0, .ref v1, .long v2] (n := 7) hargs (Nat.le_of_ble_eq_true rfl)
  rw [hE]
  have hl : lv_has ls 7 [(0, .ref v0), (1, .ref v1), (2, .long v2)] := hl
  show W p l e rm_X9_firstSince s m args below meth c s.heap [] 0 0 (MQ below (va_Ql Kn (BG D cy A Y) A) args s 0 0 A) (F0 m 0 ls [])
  unfold f_X9_firstSince at hf
  refine lv_iconst (v := 0) hx hb dX9_firstSince_0 (by decide +kernel) ?_
  refine lv_istore (lv' := [(4, .int 0), (0, .ref v0), (1, .ref v1), (2, .long v2)]) hx hb dX9_firstSince_1 hl (by decide) rfl (fun ls hl => ?_)
  obtain ⟨n3, hf⟩ := hf
  have lp3 : ∀ (n3 : Nat) (x1 : Int32) (M2 : Mm) (H : Heap) (locs : List Loc) (ls : Array Slot), lv_has ls 7 [(0, .ref v0), (1, .ref v1), (2, .long v2), (4, .int x1)] → Wd D cy A Y M2 H → va_S A s.heap H locs → LOOP2 (L_X9_firstSince_3 Y v0 v1 v2 Kn) n3 x1 M2 → W p l e rm_X9_firstSince s m args below meth c H locs 0 0 (MQ below (va_Ql Kn (BG D cy A Y) A) args s 0 0 A) (F0 m 3 ls []) := by
    intro n3
    induction n3 with
    | zero => intro x1 M2 H locs ls hl hW hS hf; exact hf.elim
    | succ n3 ih3 =>
      intro x1 M2 H locs ls hl hW hS hf
      replace hf : L_X9_firstSince_3 Y v0 v1 v2 Kn x1 M2 (LOOP2 (L_X9_firstSince_3 Y v0 v1 v2 Kn) n3) := hf
      unfold L_X9_firstSince_3 at hf
      refine lv_iload hx hb dX9_firstSince_3 (lv_at hl 3 rfl) ?_
      refine lv_aload_n hx hb dX9_firstSince_5 rfl (lv_at hl 1 rfl) ?_
      obtain ⟨k3, hf⟩ := hf
      refine gm_getI (C := RX8) (T := TX8) (N := 9) (j := 7) hx hb hts inT_8 hown hK hW k3 (by decide) rfl (by decide) rfl (hts _ kw_192) rfl dX9_firstSince_6 ?_
      refine lv_icmp_ge (tgt := 66) hx hb dX9_firstSince_9 (by decide) (fun c4 => ?_) (fun c4 => ?_)
      · replace hf := hf.1 c4
        refine lv_ldc2 (v := -1) hx hb hown (hts _ kw_876) dX9_firstSince_66 ?_
        exact gm_lret hx hb hr hlocks hW hS hf dX9_firstSince_69
      · replace hf := hf.2 c4
        refine lv_aload_n hx hb dX9_firstSince_12 rfl (lv_at hl 0 rfl) ?_
        obtain ⟨k5, hf⟩ := hf
        obtain ⟨b6, hb6, hf⟩ := hf
        refine gm_getR (C := RX9) (T := TX9) (N := 7) (j := 0) hx hb hts inT_9 hown hK hW k5 (by decide) rfl (by decide) rfl (hts _ kw_213) rfl dX9_firstSince_13 hb6 ?_
        obtain ⟨k7, hf⟩ := hf
        obtain ⟨b8, hb8, hf⟩ := hf
        refine gm_getR (C := RX3) (T := TX3) (N := 4) (j := 0) hx hb hts inT_3 hown hK hW k7 (by decide) rfl (by decide) rfl (hts _ kw_144) rfl dX9_firstSince_16 hb8 ?_
        refine lv_aload_n hx hb dX9_firstSince_19 rfl (lv_at hl 1 rfl) ?_
        obtain ⟨b9, hb9, hf⟩ := hf
        refine gm_getR (C := RX8) (T := TX8) (N := 9) (j := 8) hx hb hts inT_8 hown hK hW k3 (by decide) rfl (by decide) rfl (hts _ kw_197) rfl dX9_firstSince_20 hb9 ?_
        refine lv_iload hx hb dX9_firstSince_23 (lv_at hl 3 rfl) ?_
        obtain ⟨k10, hf⟩ := hf
        obtain ⟨h11, hf⟩ := hf
        refine gm_iald hx hb hK hW k10 h11 dX9_firstSince_25 ?_
        refine gm_cl (va_runS (As := [.ref b8, .int (mI M2 b9 x1.toNatClampNeg)]) (rest := []) ⟨hx, hb, hml, hown, hts⟩ (m_X0_greatestTimeOf l D cy tq _ Y _ _ _ _) (va_cwS 2 hts (good_S kw_1040 kw_799 kw_20 kw_800) rfl rfl rfl (by decide +kernel) ⟨Nat.le_of_ble_eq_true rfl, Nat.le_of_ble_eq_true rfl⟩) (gm_preS hK hW hC hS hA hf) rfl rfl hl.1 rfl (lv_room (Nat.le_of_ble_eq_true rfl)) dX9_firstSince_26 ⟨Nat.le_of_ble_eq_true rfl, Nat.le_of_ble_eq_true rfl⟩) hW hS hA (fun r13 M12 H locs hW hS hf => ?_)
        refine lv_lload_n hx hb dX9_firstSince_29 rfl (lv_at hl 2 rfl) ?_
        refine W.lcmp hx hb dX9_firstSince_30 ?_
        have j60 : ∀ (M14 : Mm) (H : Heap) (locs : List Loc) (ls : Array Slot), lv_has ls 7 [(0, .ref v0), (1, .ref v1), (2, .long v2), (4, .int x1)] → Wd D cy A Y M14 H → va_S A s.heap H locs → f_X9_firstSince_60 Y x1 (LOOP2 (L_X9_firstSince_3 Y v0 v1 v2 Kn) n3) M14 → W p l e rm_X9_firstSince s m args below meth c H locs 0 0 (MQ below (va_Ql Kn (BG D cy A Y) A) args s 0 0 A) (F0 m 60 ls []) := by
          intro M14 H locs ls hl hW hS hf
          unfold f_X9_firstSince_60 at hf
          obtain ⟨x15, ex15⟩ : ∃ y : Int32, y = x1 + 1 := ⟨_, rfl⟩
          replace hf := hf x15 ex15
          refine lv_iinc (v := x15) (lv' := [(4, .int x15), (0, .ref v0), (1, .ref v1), (2, .long v2)]) hx hb dX9_firstSince_60 hl (k := 3) rfl (by rw [ex15]; rfl) (by decide) rfl (fun ls hl => ?_)
          refine lv_goto (tgt := 3) hx hb dX9_firstSince_63 (by decide) ?_
          exact ih3 _ _ _ _ _ (lv_sub hl [1, 2, 3, 0] rfl) hW hS hf
        refine lv_if_lt (tgt := 60) hx hb dX9_firstSince_31 (by decide) (fun c16 => ?_) (fun c16 => ?_)
        · replace hf := hf.1 (lg_lt.mp c16)
          exact j60 _ _ _ _ (lv_sub hl [0, 1, 2, 3] rfl) hW hS hf
        · replace hf := hf.2 (fun z => c16 (lg_lt.mpr z))
          refine lv_aload_n hx hb dX9_firstSince_34 rfl (lv_at hl 0 rfl) ?_
          refine lv_aload_n hx hb dX9_firstSince_35 rfl (lv_at hl 1 rfl) ?_
          obtain ⟨b17, hb17, hf⟩ := hf
          refine gm_getR (C := RX8) (T := TX8) (N := 9) (j := 8) hx hb hts inT_8 hown hK hW k3 (by decide) rfl (by decide) rfl (hts _ kw_197) rfl dX9_firstSince_36 hb17 ?_
          refine lv_iload hx hb dX9_firstSince_39 (lv_at hl 3 rfl) ?_
          obtain ⟨k18, hf⟩ := hf
          obtain ⟨h19, hf⟩ := hf
          refine gm_iald hx hb hK hW k18 h19 dX9_firstSince_41 ?_
          refine lv_lload_n hx hb dX9_firstSince_42 rfl (lv_at hl 2 rfl) ?_
          refine gm_cl (va_runV (As := [.int (mI M12 b17 x1.toNatClampNeg), .long v2]) (rest := []) ⟨hx, hb, hml, hown, hts⟩ (m_X9_firstSinceIn l D cy tq _ Y _ _ _ _ _) (cwV 2 hts (good_V kw_1041 kw_1042 kw_1805 kw_8 kw_1043) rfl rfl rfl (by decide +kernel) ⟨Nat.le_of_ble_eq_true rfl, Nat.le_of_ble_eq_true rfl⟩) (gm_preV hK hW hC hS hA k5 (by decide) (q := (RX9, TX9, 7)) rfl rfl hf) rfl rfl hl.1 rfl (lv_room (Nat.le_of_ble_eq_true rfl)) dX9_firstSince_43 ⟨Nat.le_of_ble_eq_true rfl, Nat.le_of_ble_eq_true rfl⟩) hW hS hA (fun r21 M20 H locs hW hS hf => ?_)
          refine lv_lstore (lv' := [(5, .long r21), (0, .ref v0), (1, .ref v1), (2, .long v2), (4, .int x1)]) hx hb dX9_firstSince_46 hl (by decide) rfl (fun ls hl => ?_)
          refine lv_lload hx hb dX9_firstSince_48 (lv_at hl 0 rfl) ?_
          refine lv_ldc2 (v := -1) hx hb hown (hts _ kw_876) dX9_firstSince_50 ?_
          refine W.lcmp hx hb dX9_firstSince_53 ?_
          refine lv_if_eq (tgt := 60) hx hb dX9_firstSince_54 (by decide) (fun c22 => ?_) (fun c22 => ?_)
          · replace hf := hf.1 (lg_eq.mp c22)
            exact j60 _ _ _ _ (lv_sub hl [1, 2, 3, 4] rfl) hW hS hf
          · replace hf := hf.2 (fun z => c22 (lg_eq.mpr z))
            refine lv_lload hx hb dX9_firstSince_57 (lv_at hl 0 rfl) ?_
            exact gm_lret hx hb hr hlocks hW hS hf dX9_firstSince_59
  exact lp3 n3 _ _ _ _ _ (lv_sub hl [1, 2, 3, 0] rfl) hW hS hf

abbrev rm_X9_dropDownTo : Room := { frames := 5, cells := 0, slots := 0, locals := 149 }
def f_X9_dropDownTo_114 (Y : Ly) (Kn : Int32 → Mm → Prop) (M11 : Mm) (y14 : Int32) : Prop :=
  Kn y14 M11
def f_X9_dropDownTo_96 (Y : Ly) (v0 : Nat) (v1 : Nat) (Kn : Int32 → Mm → Prop) (x5 : Int32) (y8 : Int64) (M9 : Mm) : Prop :=
  ∀ M10 : Mm, M10 = sJ M9 v1 (m1 (mJ M9 v1) 1 y8) → (yK Y v0 = 9 ∧ (f_X9_writeHead Y v0 v1 M10 (fun r12 M11 => ((r12 = 0 → (f_X9_dropDownTo_114 Y Kn M11 (-3))) ∧ (¬ (r12 = 0) → (f_X9_dropDownTo_114 Y Kn M11 x5))))))
def f_X9_dropDownTo_52 (Y : Ly) (v0 : Nat) (v1 : Nat) (Kn : Int32 → Mm → Prop) (M1 : Mm) (x5 : Int32) : Prop :=
  (¬ x5 = 0 → (f_X8_dropFirst Y v1 x5 M1 (fun M7 => (((mI M7 v1 7) ≤ 0 → (f_X9_dropDownTo_96 Y v0 v1 Kn x5 (mJ M7 v1 2) M7)) ∧ (¬ ((mI M7 v1 7) ≤ 0) → (yK Y v0 = 9 ∧ (∃ b18 : Nat, mR M7 v0 0 = some b18 ∧ (yK Y b18 = 3 ∧ (∃ b20 : Nat, mR M7 b18 0 = some b20 ∧ (∃ b21 : Nat, mR M7 v1 8 = some b21 ∧ (yK Y b21 = 101 ∧ (vp_in 0 (yN Y b21) ∧ (f_X0_baseOf Y b20 (mI M7 b21 (0 : Int32).toNatClampNeg) M7 (fun r25 M24 => (f_X9_dropDownTo_96 Y v0 v1 Kn x5 r25 M24))))))))))))))) ∧ (x5 = 0 → (Kn 0 M1))
def L_X9_dropDownTo_8 (Y : Ly) (v0 : Nat) (v1 : Nat) (v2 : Int32) (Kn : Int32 → Mm → Prop) (M1 : Mm) (x4 : Int64) (x5 : Int32) (again8 : Int64 → Int32 → Prop) : Prop :=
  (((mI M1 v1 3) - 1) ≤ x5 → (f_X9_dropDownTo_52 Y v0 v1 Kn M1 x5)) ∧ (¬ (((mI M1 v1 3) - 1) ≤ x5) → (∃ b27 : Nat, mR M1 v1 5 = some b27 ∧ (yK Y b27 = 101 ∧ (vp_in x5 (yN Y b27) ∧ (((x4 - ((mI M1 b27 x5.toNatClampNeg).toInt64)) < v2.toInt64 → (f_X9_dropDownTo_52 Y v0 v1 Kn M1 x5)) ∧ (¬ ((x4 - ((mI M1 b27 x5.toNatClampNeg).toInt64)) < v2.toInt64) → (∃ b31 : Nat, mR M1 v1 5 = some b31 ∧ (yK Y b31 = 101 ∧ (vp_in x5 (yN Y b31) ∧ (∀ x34 : Int64, x34 = x4 - ((mI M1 b31 x5.toNatClampNeg).toInt64) → (∀ x35 : Int32, x35 = x5 + 1 → (again8 x34 x35))))))))))))
def f_X9_dropDownTo (Y : Ly) (v0 : Nat) (v1 : Nat) (v2 : Int32) (M : Mm) (Kn : Int32 → Mm → Prop) : Prop :=
  yK Y v1 = 8 ∧ (f_X8_countBytes Y v1 M (fun r2 M1 => (∃ n, LOOP2 (L_X9_dropDownTo_8 Y v0 v1 v2 Kn M1) n r2 0)))
set_option maxHeartbeats 4000000 in
set_option maxRecDepth 100000 in
theorem m_X9_dropDownTo (l : Launch) (D : va_G) (cy : Cy) (tq sz : Nat) (Y : Ly) (v0 : Nat) (v1 : Nat) (v2 : Int32) (M : Mm) (Kn : Int32 → Mm → Prop) : Met l yX9_dropDownTo (Cond.code yX9_dropDownTo cX9_dropDownTo 6 (some .int) :: TT) rm_X9_dropDownTo (PcG D cy tq [.ref v0, .ref v1, .int v2] sz Y M (f_X9_dropDownTo Y v0 v1 v2 M Kn)) (va_Qi Kn (BG D cy (Am Y sz) Y) (Am Y sz)) 0 0 (Am Y sz) := by
  refine Met.ofW (cc := cX9_dropDownTo) (maxL := 6) (ret := (some .int)) (by decide) rfl ?_
  intro p e s m args below meth c s₁ B hml hv
  obtain ⟨hargs, hsz, hW, hK, hC, hf⟩ := hv
  subst hsz
  have hx := B.exec
  have hb := B.bytes
  have hr := B.returns
  have hts : ∀ w ∈ TT, w.before args s = true := fun w h => atoms_spec (ws := Cond.code yX9_dropDownTo cX9_dropDownTo 6 (some .int) :: TT) B.pre w (List.mem_cons_of_mem _ h)
  have hown : s.vm.findClass RX9 = some m.cls := findClass_of_methodNamed B.named
  have hlocks := B.notSynchronized
  replace hW := Wd_self (sz := s.heap.size) hW
  generalize hAe : Am Y s.heap.size = A at hW hC ⊢
  have hA : ∀ q : Nat, s.heap.size ≤ q → A q := fun q h => by rw [← hAe]; exact Or.inr h
  clear hAe
  have hS : va_S A s.heap s.heap [] := va_S.rf
  obtain ⟨ls, hE, hl⟩ := gm_entry m [.ref v0, .ref v1, .int v2] (n := 6) hargs (Nat.le_of_ble_eq_true rfl)
  rw [hE]
  have hl : lv_has ls 6 [(0, .ref v0), (1, .ref v1), (2, .int v2)] := hl
  show W p l e rm_X9_dropDownTo s m args below meth c s.heap [] 0 0 (MQ below (va_Qi Kn (BG D cy A Y) A) args s 0 0 A) (F0 m 0 ls [])
  unfold f_X9_dropDownTo at hf
  refine lv_aload_n hx hb dX9_dropDownTo_0 rfl (lv_at hl 1 rfl) ?_
  obtain ⟨k3, hf⟩ := hf
  refine gm_cl (va_runV (As := []) (rest := []) ⟨hx, hb, hml, hown, hts⟩ (m_X8_countBytes l D cy tq _ Y _ _ _) (cwV 0 hts (good_V kw_1056 kw_957 kw_958 kw_9 kw_959) rfl rfl rfl (by decide +kernel) ⟨Nat.le_of_ble_eq_true rfl, Nat.le_of_ble_eq_true rfl⟩) (gm_preV hK hW hC hS hA k3 (by decide) (q := (RX8, TX8, 9)) rfl rfl hf) rfl rfl hl.1 rfl (lv_room (Nat.le_of_ble_eq_true rfl)) dX9_dropDownTo_1 ⟨Nat.le_of_ble_eq_true rfl, Nat.le_of_ble_eq_true rfl⟩) hW hS hA (fun r2 M1 H locs hW hS hf => ?_)
  refine lv_lstore_n (lv' := [(3, .long r2), (0, .ref v0), (1, .ref v1), (2, .int v2)]) hx hb dX9_dropDownTo_4 rfl hl (by decide) rfl (fun ls hl => ?_)
  refine lv_iconst (v := 0) hx hb dX9_dropDownTo_5 (by decide +kernel) ?_
  refine lv_istore (lv' := [(5, .int 0), (3, .long r2), (0, .ref v0), (1, .ref v1), (2, .int v2)]) hx hb dX9_dropDownTo_6 hl (by decide) rfl (fun ls hl => ?_)
  obtain ⟨n8, hf⟩ := hf
  have lp8 : ∀ (n8 : Nat) (x4 : Int64) (x5 : Int32) (H : Heap) (locs : List Loc) (ls : Array Slot), lv_has ls 6 [(0, .ref v0), (1, .ref v1), (2, .int v2), (3, .long x4), (5, .int x5)] → Wd D cy A Y M1 H → va_S A s.heap H locs → LOOP2 (L_X9_dropDownTo_8 Y v0 v1 v2 Kn M1) n8 x4 x5 → W p l e rm_X9_dropDownTo s m args below meth c H locs 0 0 (MQ below (va_Qi Kn (BG D cy A Y) A) args s 0 0 A) (F0 m 8 ls []) := by
    intro n8
    induction n8 with
    | zero => intro x4 x5 H locs ls hl hW hS hf; exact hf.elim
    | succ n8 ih8 =>
      intro x4 x5 H locs ls hl hW hS hf
      replace hf : L_X9_dropDownTo_8 Y v0 v1 v2 Kn M1 x4 x5 (LOOP2 (L_X9_dropDownTo_8 Y v0 v1 v2 Kn M1) n8) := hf
      unfold L_X9_dropDownTo_8 at hf
      refine lv_iload hx hb dX9_dropDownTo_8 (lv_at hl 4 rfl) ?_
      refine lv_aload_n hx hb dX9_dropDownTo_10 rfl (lv_at hl 1 rfl) ?_
      refine gm_getI (C := RX8) (T := TX8) (N := 9) (j := 3) hx hb hts inT_8 hown hK hW k3 (by decide) rfl (by decide) rfl (hts _ kw_180) rfl dX9_dropDownTo_11 ?_
      refine lv_iconst (v := 1) hx hb dX9_dropDownTo_14 (by decide +kernel) ?_
      refine lv_isub hx hb dX9_dropDownTo_15 ?_
      have j52 : ∀ (H : Heap) (locs : List Loc) (ls : Array Slot), lv_has ls 6 [(0, .ref v0), (1, .ref v1), (5, .int x5)] → Wd D cy A Y M1 H → va_S A s.heap H locs → f_X9_dropDownTo_52 Y v0 v1 Kn M1 x5  → W p l e rm_X9_dropDownTo s m args below meth c H locs 0 0 (MQ below (va_Qi Kn (BG D cy A Y) A) args s 0 0 A) (F0 m 52 ls []) := by
        intro  H locs ls hl hW hS hf
        unfold f_X9_dropDownTo_52 at hf
        refine lv_iload hx hb dX9_dropDownTo_52 (lv_at hl 2 rfl) ?_
        refine lv_if_ne (tgt := 59) hx hb dX9_dropDownTo_54 (by decide) (fun c6 => ?_) (fun c6 => ?_)
        · replace hf := hf.1 c6
          refine lv_aload_n hx hb dX9_dropDownTo_59 rfl (lv_at hl 1 rfl) ?_
          refine lv_iload hx hb dX9_dropDownTo_60 (lv_at hl 2 rfl) ?_
          refine gm_cv (va_runV (As := [.int x5]) (rest := []) ⟨hx, hb, hml, hown, hts⟩ (m_X8_dropFirst l D cy tq _ Y _ _ _ _) (cwV 1 hts (good_V kw_1057 kw_1058 kw_1059 kw_9 kw_1060) rfl rfl rfl (by decide +kernel) ⟨Nat.le_of_ble_eq_true rfl, Nat.le_of_ble_eq_true rfl⟩) (gm_preV hK hW hC hS hA k3 (by decide) (q := (RX8, TX8, 9)) rfl rfl hf) rfl rfl hl.1 rfl (lv_room (Nat.le_of_ble_eq_true rfl)) dX9_dropDownTo_62 ⟨Nat.le_of_ble_eq_true rfl, Nat.le_of_ble_eq_true rfl⟩) hW hS hA (fun M7 H locs hW hS hf => ?_)
          refine lv_aload_n hx hb dX9_dropDownTo_65 rfl (lv_at hl 1 rfl) ?_
          refine lv_aload_n hx hb dX9_dropDownTo_66 rfl (lv_at hl 1 rfl) ?_
          refine gm_getI (C := RX8) (T := TX8) (N := 9) (j := 7) hx hb hts inT_8 hown hK hW k3 (by decide) rfl (by decide) rfl (hts _ kw_192) rfl dX9_dropDownTo_67 ?_
          have j96 : ∀ (y8 : Int64) (M9 : Mm) (H : Heap) (locs : List Loc) (ls : Array Slot), lv_has ls 6 [(0, .ref v0), (1, .ref v1), (5, .int x5)] → Wd D cy A Y M9 H → va_S A s.heap H locs → f_X9_dropDownTo_96 Y v0 v1 Kn x5 y8 M9 → W p l e rm_X9_dropDownTo s m args below meth c H locs 0 0 (MQ below (va_Qi Kn (BG D cy A Y) A) args s 0 0 A) (F0 m 96 ls [.long y8, .ref v1]) := by
            intro y8 M9 H locs ls hl hW hS hf
            unfold f_X9_dropDownTo_96 at hf
            refine gm_putJ (C := RX8) (T := TX8) (N := 9) (j := 1) hx hb hts inT_8 tyX8 tyX8_ok nmX8 hown hK hW hS k3 (by decide) rfl (by decide) rfl (hts _ kw_174) rfl rfl rfl rfl dX9_dropDownTo_96 (fun H locs M10 eM10 hW hS => ?_)
            replace hf := hf M10 eM10
            refine lv_aload_n hx hb dX9_dropDownTo_99 rfl (lv_at hl 0 rfl) ?_
            refine lv_aload_n hx hb dX9_dropDownTo_100 rfl (lv_at hl 1 rfl) ?_
            obtain ⟨k13, hf⟩ := hf
            refine gm_ci (va_runV (As := [.ref v1]) (rest := []) ⟨hx, hb, hml, hown, hts⟩ (m_X9_writeHead l D cy tq _ Y _ _ _ _) (cwV 1 hts (good_V kw_917 kw_918 kw_919 kw_8 kw_920) rfl rfl rfl (by decide +kernel) ⟨Nat.le_of_ble_eq_true rfl, Nat.le_of_ble_eq_true rfl⟩) (gm_preV hK hW hC hS hA k13 (by decide) (q := (RX9, TX9, 7)) rfl rfl hf) rfl rfl hl.1 rfl (lv_room (Nat.le_of_ble_eq_true rfl)) dX9_dropDownTo_101 ⟨Nat.le_of_ble_eq_true rfl, Nat.le_of_ble_eq_true rfl⟩) hW hS hA (fun r12 M11 H locs hW hS hf => ?_)
            have j114 : ∀ (y14 : Int32) (H : Heap) (locs : List Loc) (ls : Array Slot), lv_has ls 6 [] → Wd D cy A Y M11 H → va_S A s.heap H locs → f_X9_dropDownTo_114 Y Kn M11 y14 → W p l e rm_X9_dropDownTo s m args below meth c H locs 0 0 (MQ below (va_Qi Kn (BG D cy A Y) A) args s 0 0 A) (F0 m 114 ls [.int y14]) := by
              intro y14 H locs ls hl hW hS hf
              unfold f_X9_dropDownTo_114 at hf
              exact gm_iret hx hb hr hlocks hW hS hf dX9_dropDownTo_114
            refine lv_if_eq (tgt := 112) hx hb dX9_dropDownTo_104 (by decide) (fun c15 => ?_) (fun c15 => ?_)
            · replace hf := hf.1 c15
              refine lv_bipush (v := -3) hx hb dX9_dropDownTo_112 (by decide +kernel) ?_
              exact j114 _ _ _ _ (lv_sub hl [] rfl) hW hS hf
            · replace hf := hf.2 c15
              refine lv_iload hx hb dX9_dropDownTo_107 (lv_at hl 2 rfl) ?_
              refine lv_goto (tgt := 114) hx hb dX9_dropDownTo_109 (by decide) ?_
              exact j114 _ _ _ _ (lv_sub hl [] rfl) hW hS hf
          refine lv_if_le (tgt := 92) hx hb dX9_dropDownTo_70 (by decide) (fun c16 => ?_) (fun c16 => ?_)
          · replace hf := hf.1 c16
            refine lv_aload_n hx hb dX9_dropDownTo_92 rfl (lv_at hl 1 rfl) ?_
            refine gm_getJ (C := RX8) (T := TX8) (N := 9) (j := 2) hx hb hts inT_8 hown hK hW k3 (by decide) rfl (by decide) rfl (hts _ kw_176) rfl dX9_dropDownTo_93 ?_
            exact j96 _ _ _ _ _ (lv_sub hl [0, 1, 2] rfl) hW hS hf
          · replace hf := hf.2 c16
            refine lv_aload_n hx hb dX9_dropDownTo_73 rfl (lv_at hl 0 rfl) ?_
            obtain ⟨k17, hf⟩ := hf
            obtain ⟨b18, hb18, hf⟩ := hf
            refine gm_getR (C := RX9) (T := TX9) (N := 7) (j := 0) hx hb hts inT_9 hown hK hW k17 (by decide) rfl (by decide) rfl (hts _ kw_213) rfl dX9_dropDownTo_74 hb18 ?_
            obtain ⟨k19, hf⟩ := hf
            obtain ⟨b20, hb20, hf⟩ := hf
            refine gm_getR (C := RX3) (T := TX3) (N := 4) (j := 0) hx hb hts inT_3 hown hK hW k19 (by decide) rfl (by decide) rfl (hts _ kw_144) rfl dX9_dropDownTo_77 hb20 ?_
            refine lv_aload_n hx hb dX9_dropDownTo_80 rfl (lv_at hl 1 rfl) ?_
            obtain ⟨b21, hb21, hf⟩ := hf
            refine gm_getR (C := RX8) (T := TX8) (N := 9) (j := 8) hx hb hts inT_8 hown hK hW k3 (by decide) rfl (by decide) rfl (hts _ kw_197) rfl dX9_dropDownTo_81 hb21 ?_
            refine lv_iconst (v := 0) hx hb dX9_dropDownTo_84 (by decide +kernel) ?_
            obtain ⟨k22, hf⟩ := hf
            obtain ⟨h23, hf⟩ := hf
            refine gm_iald hx hb hK hW k22 h23 dX9_dropDownTo_85 ?_
            refine gm_cl (va_runS (As := [.ref b20, .int (mI M7 b21 (0 : Int32).toNatClampNeg)]) (rest := [.ref v1]) ⟨hx, hb, hml, hown, hts⟩ (m_X0_baseOf l D cy tq _ Y _ _ _ _) (va_cwS 2 hts (good_S kw_884 kw_788 kw_20 kw_789) rfl rfl rfl (by decide +kernel) ⟨Nat.le_of_ble_eq_true rfl, Nat.le_of_ble_eq_true rfl⟩) (gm_preS hK hW hC hS hA hf) rfl rfl hl.1 rfl (lv_room (Nat.le_of_ble_eq_true rfl)) dX9_dropDownTo_86 ⟨Nat.le_of_ble_eq_true rfl, Nat.le_of_ble_eq_true rfl⟩) hW hS hA (fun r25 M24 H locs hW hS hf => ?_)
            refine lv_goto (tgt := 96) hx hb dX9_dropDownTo_89 (by decide) ?_
            exact j96 _ _ _ _ _ (lv_sub hl [0, 1, 2] rfl) hW hS hf
        · replace hf := hf.2 c6
          refine lv_iconst (v := 0) hx hb dX9_dropDownTo_57 (by decide +kernel) ?_
          exact gm_iret hx hb hr hlocks hW hS hf dX9_dropDownTo_58
      refine lv_icmp_ge (tgt := 52) hx hb dX9_dropDownTo_16 (by decide) (fun c26 => ?_) (fun c26 => ?_)
      · replace hf := hf.1 c26
        exact j52  _ _ _ (lv_sub hl [0, 1, 4] rfl) hW hS hf
      · replace hf := hf.2 c26
        refine lv_lload_n hx hb dX9_dropDownTo_19 rfl (lv_at hl 3 rfl) ?_
        refine lv_aload_n hx hb dX9_dropDownTo_20 rfl (lv_at hl 1 rfl) ?_
        obtain ⟨b27, hb27, hf⟩ := hf
        refine gm_getR (C := RX8) (T := TX8) (N := 9) (j := 5) hx hb hts inT_8 hown hK hW k3 (by decide) rfl (by decide) rfl (hts _ kw_186) rfl dX9_dropDownTo_21 hb27 ?_
        refine lv_iload hx hb dX9_dropDownTo_24 (lv_at hl 4 rfl) ?_
        obtain ⟨k28, hf⟩ := hf
        obtain ⟨h29, hf⟩ := hf
        refine gm_iald hx hb hK hW k28 h29 dX9_dropDownTo_26 ?_
        refine lv_i2l hx hb dX9_dropDownTo_27 rfl ?_
        refine lv_lsub hx hb dX9_dropDownTo_28 ?_
        refine lv_iload_n hx hb dX9_dropDownTo_29 rfl (lv_at hl 2 rfl) ?_
        refine lv_i2l hx hb dX9_dropDownTo_30 rfl ?_
        refine W.lcmp hx hb dX9_dropDownTo_31 ?_
        refine lv_if_lt (tgt := 52) hx hb dX9_dropDownTo_32 (by decide) (fun c30 => ?_) (fun c30 => ?_)
        · replace hf := hf.1 (lg_lt.mp c30)
          exact j52  _ _ _ (lv_sub hl [0, 1, 4] rfl) hW hS hf
        · replace hf := hf.2 (fun z => c30 (lg_lt.mpr z))
          refine lv_lload_n hx hb dX9_dropDownTo_35 rfl (lv_at hl 3 rfl) ?_
          refine lv_aload_n hx hb dX9_dropDownTo_36 rfl (lv_at hl 1 rfl) ?_
          obtain ⟨b31, hb31, hf⟩ := hf
          refine gm_getR (C := RX8) (T := TX8) (N := 9) (j := 5) hx hb hts inT_8 hown hK hW k3 (by decide) rfl (by decide) rfl (hts _ kw_186) rfl dX9_dropDownTo_37 hb31 ?_
          refine lv_iload hx hb dX9_dropDownTo_40 (lv_at hl 4 rfl) ?_
          obtain ⟨k32, hf⟩ := hf
          obtain ⟨h33, hf⟩ := hf
          refine gm_iald hx hb hK hW k32 h33 dX9_dropDownTo_42 ?_
          refine lv_i2l hx hb dX9_dropDownTo_43 rfl ?_
          refine lv_lsub hx hb dX9_dropDownTo_44 ?_
          refine lv_topl (fun x34 ex34 => ?_)
          replace hf := hf x34 ex34
          refine lv_lstore_n (lv' := [(3, .long x34), (0, .ref v0), (1, .ref v1), (2, .int v2), (5, .int x5)]) hx hb dX9_dropDownTo_45 rfl hl (by decide) rfl (fun ls hl => ?_)
          obtain ⟨x35, ex35⟩ : ∃ y : Int32, y = x5 + 1 := ⟨_, rfl⟩
          replace hf := hf x35 ex35
          refine lv_iinc (v := x35) (lv' := [(5, .int x35), (3, .long x34), (0, .ref v0), (1, .ref v1), (2, .int v2)]) hx hb dX9_dropDownTo_46 hl (k := 4) rfl (by rw [ex35]; rfl) (by decide) rfl (fun ls hl => ?_)
          refine lv_goto (tgt := 8) hx hb dX9_dropDownTo_49 (by decide) ?_
          exact ih8 _ _ _ _ _ (lv_sub hl [2, 3, 4, 1, 0] rfl) hW hS hf
  exact lp8 n8 _ _ _ _ _ (lv_sub hl [2, 3, 4, 1, 0] rfl) hW hS hf

abbrev rm_X9_countFree : Room := { frames := 4, cells := 0, slots := 0, locals := 128 }
def f_X9_countFree_32 (Y : Ly) (x5 : Int32) (again11 : Int32 → Int32 → Prop) (x12 : Int32) : Prop :=
  ∀ x13 : Int32, x13 = x5 + 1 → (again11 x12 x13)
def L_X9_countFree_11 (Y : Ly) (v0 : Nat) (Kn : Int32 → Mm → Prop) (M1 : Mm) (x4 : Int32) (x5 : Int32) (again11 : Int32 → Int32 → Prop) : Prop :=
  ∃ b6 : Nat, mR M1 v0 4 = some b6 ∧ (yK Y b6 = 100 ∧ (((nI (yN Y b6)) ≤ x5 → (Kn x4 M1)) ∧ (¬ ((nI (yN Y b6)) ≤ x5) → (∃ b9 : Nat, mR M1 v0 4 = some b9 ∧ (yK Y b9 = 100 ∧ (vp_in x5 (yN Y b9) ∧ ((¬ (mI M1 b9 x5.toNatClampNeg) = 0 → (f_X9_countFree_32 Y x5 again11 x4)) ∧ ((mI M1 b9 x5.toNatClampNeg) = 0 → (∀ x15 : Int32, x15 = x4 + 1 → (f_X9_countFree_32 Y x5 again11 x15))))))))))
def f_X9_countFree (Y : Ly) (v0 : Nat) (M : Mm) (Kn : Int32 → Mm → Prop) : Prop :=
  yK Y v0 = 9 ∧ (f_X9_countUses Y v0 M (fun M1 => (∀ x3 : Int32, x3 = mI M1 v0 3 → (∃ n, LOOP2 (L_X9_countFree_11 Y v0 Kn M1) n 0 x3))))
set_option maxHeartbeats 4000000 in
set_option maxRecDepth 100000 in
theorem m_X9_countFree (l : Launch) (D : va_G) (cy : Cy) (tq sz : Nat) (Y : Ly) (v0 : Nat) (M : Mm) (Kn : Int32 → Mm → Prop) : Met l yX9_countFree (Cond.code yX9_countFree cX9_countFree 3 (some .int) :: TT) rm_X9_countFree (PcG D cy tq [.ref v0] sz Y M (f_X9_countFree Y v0 M Kn)) (va_Qi Kn (BG D cy (Am Y sz) Y) (Am Y sz)) 0 0 (Am Y sz) := by
  refine Met.ofW (cc := cX9_countFree) (maxL := 3) (ret := (some .int)) (by decide) rfl ?_
  intro p e s m args below meth c s₁ B hml hv
  obtain ⟨hargs, hsz, hW, hK, hC, hf⟩ := hv
  subst hsz
  have hx := B.exec
  have hb := B.bytes
  have hr := B.returns
  have hts : ∀ w ∈ TT, w.before args s = true := fun w h => atoms_spec (ws := Cond.code yX9_countFree cX9_countFree 3 (some .int) :: TT) B.pre w (List.mem_cons_of_mem _ h)
  have hown : s.vm.findClass RX9 = some m.cls := findClass_of_methodNamed B.named
  have hlocks := B.notSynchronized
  replace hW := Wd_self (sz := s.heap.size) hW
  generalize hAe : Am Y s.heap.size = A at hW hC ⊢
  have hA : ∀ q : Nat, s.heap.size ≤ q → A q := fun q h => by rw [← hAe]; exact Or.inr h
  clear hAe
  have hS : va_S A s.heap s.heap [] := va_S.rf
  obtain ⟨ls, hE, hl⟩ := gm_entry m [.ref v0] (n := 3) hargs (Nat.le_of_ble_eq_true rfl)
  rw [hE]
  have hl : lv_has ls 3 [(0, .ref v0)] := hl
  show W p l e rm_X9_countFree s m args below meth c s.heap [] 0 0 (MQ below (va_Qi Kn (BG D cy A Y) A) args s 0 0 A) (F0 m 0 ls [])
  unfold f_X9_countFree at hf
  refine lv_aload_n hx hb dX9_countFree_0 rfl (lv_at hl 0 rfl) ?_
  obtain ⟨k2, hf⟩ := hf
  refine gm_cv (va_runV (As := []) (rest := []) ⟨hx, hb, hml, hown, hts⟩ (m_X9_countUses l D cy tq _ Y _ _ _) (cwV 0 hts (good_V kw_899 kw_900 kw_901 kw_8 kw_902) rfl rfl rfl (by decide +kernel) ⟨Nat.le_of_ble_eq_true rfl, Nat.le_of_ble_eq_true rfl⟩) (gm_preV hK hW hC hS hA k2 (by decide) (q := (RX9, TX9, 7)) rfl rfl hf) rfl rfl hl.1 rfl (lv_room (Nat.le_of_ble_eq_true rfl)) dX9_countFree_1 ⟨Nat.le_of_ble_eq_true rfl, Nat.le_of_ble_eq_true rfl⟩) hW hS hA (fun M1 H locs hW hS hf => ?_)
  refine lv_iconst (v := 0) hx hb dX9_countFree_4 (by decide +kernel) ?_
  refine lv_istore_n (lv' := [(1, .int 0), (0, .ref v0)]) hx hb dX9_countFree_5 rfl hl (by decide) rfl (fun ls hl => ?_)
  refine lv_aload_n hx hb dX9_countFree_6 rfl (lv_at hl 1 rfl) ?_
  refine gm_getI (C := RX9) (T := TX9) (N := 7) (j := 3) hx hb hts inT_9 hown hK hW k2 (by decide) rfl (by decide) rfl (hts _ kw_221) rfl dX9_countFree_7 ?_
  refine lv_topi (fun x3 ex3 => ?_)
  replace hf := hf x3 ex3
  refine lv_istore_n (lv' := [(2, .int x3), (1, .int 0), (0, .ref v0)]) hx hb dX9_countFree_10 rfl hl (by decide) rfl (fun ls hl => ?_)
  obtain ⟨n11, hf⟩ := hf
  have lp11 : ∀ (n11 : Nat) (x4 : Int32) (x5 : Int32) (H : Heap) (locs : List Loc) (ls : Array Slot), lv_has ls 3 [(0, .ref v0), (1, .int x4), (2, .int x5)] → Wd D cy A Y M1 H → va_S A s.heap H locs → LOOP2 (L_X9_countFree_11 Y v0 Kn M1) n11 x4 x5 → W p l e rm_X9_countFree s m args below meth c H locs 0 0 (MQ below (va_Qi Kn (BG D cy A Y) A) args s 0 0 A) (F0 m 11 ls []) := by
    intro n11
    induction n11 with
    | zero => intro x4 x5 H locs ls hl hW hS hf; exact hf.elim
    | succ n11 ih11 =>
      intro x4 x5 H locs ls hl hW hS hf
      replace hf : L_X9_countFree_11 Y v0 Kn M1 x4 x5 (LOOP2 (L_X9_countFree_11 Y v0 Kn M1) n11) := hf
      unfold L_X9_countFree_11 at hf
      refine lv_iload_n hx hb dX9_countFree_11 rfl (lv_at hl 2 rfl) ?_
      refine lv_aload_n hx hb dX9_countFree_12 rfl (lv_at hl 0 rfl) ?_
      obtain ⟨b6, hb6, hf⟩ := hf
      refine gm_getR (C := RX9) (T := TX9) (N := 7) (j := 4) hx hb hts inT_9 hown hK hW k2 (by decide) rfl (by decide) rfl (hts _ kw_222) rfl dX9_countFree_13 hb6 ?_
      obtain ⟨k7, hf⟩ := hf
      refine gm_alen hx hb hK hW (by rw [k7]; decide) dX9_countFree_16 ?_
      refine lv_icmp_ge (tgt := 38) hx hb dX9_countFree_17 (by decide) (fun c8 => ?_) (fun c8 => ?_)
      · replace hf := hf.1 c8
        refine lv_iload_n hx hb dX9_countFree_38 rfl (lv_at hl 1 rfl) ?_
        exact gm_iret hx hb hr hlocks hW hS hf dX9_countFree_39
      · replace hf := hf.2 c8
        refine lv_aload_n hx hb dX9_countFree_20 rfl (lv_at hl 0 rfl) ?_
        obtain ⟨b9, hb9, hf⟩ := hf
        refine gm_getR (C := RX9) (T := TX9) (N := 7) (j := 4) hx hb hts inT_9 hown hK hW k2 (by decide) rfl (by decide) rfl (hts _ kw_222) rfl dX9_countFree_21 hb9 ?_
        refine lv_iload_n hx hb dX9_countFree_24 rfl (lv_at hl 2 rfl) ?_
        obtain ⟨k10, hf⟩ := hf
        obtain ⟨h11, hf⟩ := hf
        refine gm_bald hx hb hK hW k10 h11 dX9_countFree_25 ?_
        have j32 : ∀ (x12 : Int32) (H : Heap) (locs : List Loc) (ls : Array Slot), lv_has ls 3 [(0, .ref v0), (1, .int x12), (2, .int x5)] → Wd D cy A Y M1 H → va_S A s.heap H locs → f_X9_countFree_32 Y x5 (LOOP2 (L_X9_countFree_11 Y v0 Kn M1) n11) x12 → W p l e rm_X9_countFree s m args below meth c H locs 0 0 (MQ below (va_Qi Kn (BG D cy A Y) A) args s 0 0 A) (F0 m 32 ls []) := by
          intro x12 H locs ls hl hW hS hf
          unfold f_X9_countFree_32 at hf
          obtain ⟨x13, ex13⟩ : ∃ y : Int32, y = x5 + 1 := ⟨_, rfl⟩
          replace hf := hf x13 ex13
          refine lv_iinc (v := x13) (lv' := [(2, .int x13), (0, .ref v0), (1, .int x12)]) hx hb dX9_countFree_32 hl (k := 2) rfl (by rw [ex13]; rfl) (by decide) rfl (fun ls hl => ?_)
          refine lv_goto (tgt := 11) hx hb dX9_countFree_35 (by decide) ?_
          exact ih11 _ _ _ _ _ (lv_sub hl [1, 2, 0] rfl) hW hS hf
        refine lv_if_ne (tgt := 32) hx hb dX9_countFree_26 (by decide) (fun c14 => ?_) (fun c14 => ?_)
        · replace hf := hf.1 c14
          exact j32 _ _ _ _ (lv_sub hl [0, 1, 2] rfl) hW hS hf
        · replace hf := hf.2 c14
          obtain ⟨x15, ex15⟩ : ∃ y : Int32, y = x4 + 1 := ⟨_, rfl⟩
          replace hf := hf x15 ex15
          refine lv_iinc (v := x15) (lv' := [(1, .int x15), (0, .ref v0), (2, .int x5)]) hx hb dX9_countFree_29 hl (k := 1) rfl (by rw [ex15]; rfl) (by decide) rfl (fun ls hl => ?_)
          exact j32 _ _ _ _ (lv_sub hl [1, 0, 2] rfl) hW hS hf
  exact lp11 n11 _ _ _ _ _ (lv_sub hl [2, 1, 0] rfl) hW hS hf

abbrev rm_X9_headFaults : Room := { frames := 4, cells := 0, slots := 0, locals := 127 }
def L_X9_headFaults_16 (Y : Ly) (v0 : Nat) (Kn : Int32 → Mm → Prop) (M1 : Mm) (x4 : Int32) (x5 : Int32) (again16 : Int32 → Prop) : Prop :=
  ∃ b6 : Nat, mR M1 v0 5 = some b6 ∧ (yK Y b6 = 100 ∧ (((nI (yN Y b6)) ≤ x5 → (Kn 0 M1)) ∧ (¬ ((nI (yN Y b6)) ≤ x5) → (∃ b9 : Nat, mR M1 v0 5 = some b9 ∧ (yK Y b9 = 100 ∧ (vp_in x5 (yN Y b9) ∧ (∃ b12 : Nat, mR M1 v0 0 = some b12 ∧ (yK Y b12 = 3 ∧ (∃ b14 : Nat, mR M1 b12 0 = some b14 ∧ (yK Y b14 = 100 ∧ (vp_in (x4 + x5) (yN Y b14) ∧ (((mI M1 b9 x5.toNatClampNeg) = (mI M1 b14 (x4 + x5).toNatClampNeg) → (∀ x18 : Int32, x18 = x5 + 1 → (again16 x18))) ∧ (¬ ((mI M1 b9 x5.toNatClampNeg) = (mI M1 b14 (x4 + x5).toNatClampNeg)) → (Kn 1 M1))))))))))))))
def f_X9_headFaults (Y : Ly) (v0 : Nat) (v1 : Nat) (M : Mm) (Kn : Int32 → Mm → Prop) : Prop :=
  yK Y v0 = 9 ∧ (f_X9_fillHeadRow Y v0 v1 M (fun M1 => (yK Y v1 = 8 ∧ (∀ x4 : Int32, x4 = (mI M1 v1 0) * 1024 → (∃ n, LOOP1 (L_X9_headFaults_16 Y v0 Kn M1 x4) n 0)))))
set_option maxHeartbeats 4000000 in
set_option maxRecDepth 100000 in
theorem m_X9_headFaults (l : Launch) (D : va_G) (cy : Cy) (tq sz : Nat) (Y : Ly) (v0 : Nat) (v1 : Nat) (M : Mm) (Kn : Int32 → Mm → Prop) : Met l yX9_headFaults (Cond.code yX9_headFaults cX9_headFaults 4 (some .int) :: TT) rm_X9_headFaults (PcG D cy tq [.ref v0, .ref v1] sz Y M (f_X9_headFaults Y v0 v1 M Kn)) (va_Qi Kn (BG D cy (Am Y sz) Y) (Am Y sz)) 0 0 (Am Y sz) := by
  refine Met.ofW (cc := cX9_headFaults) (maxL := 4) (ret := (some .int)) (by decide) rfl ?_
  intro p e s m args below meth c s₁ B hml hv
  obtain ⟨hargs, hsz, hW, hK, hC, hf⟩ := hv
  subst hsz
  have hx := B.exec
  have hb := B.bytes
  have hr := B.returns
  have hts : ∀ w ∈ TT, w.before args s = true := fun w h => atoms_spec (ws := Cond.code yX9_headFaults cX9_headFaults 4 (some .int) :: TT) B.pre w (List.mem_cons_of_mem _ h)
  have hown : s.vm.findClass RX9 = some m.cls := findClass_of_methodNamed B.named
  have hlocks := B.notSynchronized
  replace hW := Wd_self (sz := s.heap.size) hW
  generalize hAe : Am Y s.heap.size = A at hW hC ⊢
  have hA : ∀ q : Nat, s.heap.size ≤ q → A q := fun q h => by rw [← hAe]; exact Or.inr h
  clear hAe
  have hS : va_S A s.heap s.heap [] := va_S.rf
  obtain ⟨ls, hE, hl⟩ := gm_entry m [.ref v0, .ref v1] (n := 4) hargs (Nat.le_of_ble_eq_true rfl)
  rw [hE]
  have hl : lv_has ls 4 [(0, .ref v0), (1, .ref v1)] := hl
  show W p l e rm_X9_headFaults s m args below meth c s.heap [] 0 0 (MQ below (va_Qi Kn (BG D cy A Y) A) args s 0 0 A) (F0 m 0 ls [])
  unfold f_X9_headFaults at hf
  refine lv_aload_n hx hb dX9_headFaults_0 rfl (lv_at hl 0 rfl) ?_
  refine lv_aload_n hx hb dX9_headFaults_1 rfl (lv_at hl 1 rfl) ?_
  obtain ⟨k2, hf⟩ := hf
  refine gm_cv (va_runV (As := [.ref v1]) (rest := []) ⟨hx, hb, hml, hown, hts⟩ (m_X9_fillHeadRow l D cy tq _ Y _ _ _ _) (cwV 1 hts (good_V kw_921 kw_922 kw_1800 kw_8 kw_923) rfl rfl rfl (by decide +kernel) ⟨Nat.le_of_ble_eq_true rfl, Nat.le_of_ble_eq_true rfl⟩) (gm_preV hK hW hC hS hA k2 (by decide) (q := (RX9, TX9, 7)) rfl rfl hf) rfl rfl hl.1 rfl (lv_room (Nat.le_of_ble_eq_true rfl)) dX9_headFaults_2 ⟨Nat.le_of_ble_eq_true rfl, Nat.le_of_ble_eq_true rfl⟩) hW hS hA (fun M1 H locs hW hS hf => ?_)
  refine lv_aload_n hx hb dX9_headFaults_5 rfl (lv_at hl 1 rfl) ?_
  obtain ⟨k3, hf⟩ := hf
  refine gm_getI (C := RX8) (T := TX8) (N := 9) (j := 0) hx hb hts inT_8 hown hK hW k3 (by decide) rfl (by decide) rfl (hts _ kw_171) rfl dX9_headFaults_6 ?_
  refine lv_sipush (v := 1024) hx hb dX9_headFaults_9 (by decide +kernel) ?_
  refine lv_imul hx hb dX9_headFaults_12 ?_
  refine lv_topi (fun x4 ex4 => ?_)
  replace hf := hf x4 ex4
  refine lv_istore_n (lv' := [(2, .int x4), (0, .ref v0), (1, .ref v1)]) hx hb dX9_headFaults_13 rfl hl (by decide) rfl (fun ls hl => ?_)
  refine lv_iconst (v := 0) hx hb dX9_headFaults_14 (by decide +kernel) ?_
  refine lv_istore_n (lv' := [(3, .int 0), (2, .int x4), (0, .ref v0), (1, .ref v1)]) hx hb dX9_headFaults_15 rfl hl (by decide) rfl (fun ls hl => ?_)
  obtain ⟨n16, hf⟩ := hf
  have lp16 : ∀ (n16 : Nat) (x5 : Int32) (H : Heap) (locs : List Loc) (ls : Array Slot), lv_has ls 4 [(0, .ref v0), (2, .int x4), (3, .int x5)] → Wd D cy A Y M1 H → va_S A s.heap H locs → LOOP1 (L_X9_headFaults_16 Y v0 Kn M1 x4) n16 x5 → W p l e rm_X9_headFaults s m args below meth c H locs 0 0 (MQ below (va_Qi Kn (BG D cy A Y) A) args s 0 0 A) (F0 m 16 ls []) := by
    intro n16
    induction n16 with
    | zero => intro x5 H locs ls hl hW hS hf; exact hf.elim
    | succ n16 ih16 =>
      intro x5 H locs ls hl hW hS hf
      replace hf : L_X9_headFaults_16 Y v0 Kn M1 x4 x5 (LOOP1 (L_X9_headFaults_16 Y v0 Kn M1 x4) n16) := hf
      unfold L_X9_headFaults_16 at hf
      refine lv_iload_n hx hb dX9_headFaults_16 rfl (lv_at hl 2 rfl) ?_
      refine lv_aload_n hx hb dX9_headFaults_17 rfl (lv_at hl 0 rfl) ?_
      obtain ⟨b6, hb6, hf⟩ := hf
      refine gm_getR (C := RX9) (T := TX9) (N := 7) (j := 5) hx hb hts inT_9 hown hK hW k2 (by decide) rfl (by decide) rfl (hts _ kw_223) rfl dX9_headFaults_18 hb6 ?_
      obtain ⟨k7, hf⟩ := hf
      refine gm_alen hx hb hK hW (by rw [k7]; decide) dX9_headFaults_21 ?_
      refine lv_icmp_ge (tgt := 53) hx hb dX9_headFaults_22 (by decide) (fun c8 => ?_) (fun c8 => ?_)
      · replace hf := hf.1 c8
        refine lv_iconst (v := 0) hx hb dX9_headFaults_53 (by decide +kernel) ?_
        exact gm_iret hx hb hr hlocks hW hS hf dX9_headFaults_54
      · replace hf := hf.2 c8
        refine lv_aload_n hx hb dX9_headFaults_25 rfl (lv_at hl 0 rfl) ?_
        obtain ⟨b9, hb9, hf⟩ := hf
        refine gm_getR (C := RX9) (T := TX9) (N := 7) (j := 5) hx hb hts inT_9 hown hK hW k2 (by decide) rfl (by decide) rfl (hts _ kw_223) rfl dX9_headFaults_26 hb9 ?_
        refine lv_iload_n hx hb dX9_headFaults_29 rfl (lv_at hl 2 rfl) ?_
        obtain ⟨k10, hf⟩ := hf
        obtain ⟨h11, hf⟩ := hf
        refine gm_bald hx hb hK hW k10 h11 dX9_headFaults_30 ?_
        refine lv_aload_n hx hb dX9_headFaults_31 rfl (lv_at hl 0 rfl) ?_
        obtain ⟨b12, hb12, hf⟩ := hf
        refine gm_getR (C := RX9) (T := TX9) (N := 7) (j := 0) hx hb hts inT_9 hown hK hW k2 (by decide) rfl (by decide) rfl (hts _ kw_213) rfl dX9_headFaults_32 hb12 ?_
        obtain ⟨k13, hf⟩ := hf
        obtain ⟨b14, hb14, hf⟩ := hf
        refine gm_getR (C := RX3) (T := TX3) (N := 4) (j := 0) hx hb hts inT_3 hown hK hW k13 (by decide) rfl (by decide) rfl (hts _ kw_144) rfl dX9_headFaults_35 hb14 ?_
        refine lv_iload_n hx hb dX9_headFaults_38 rfl (lv_at hl 1 rfl) ?_
        refine lv_iload_n hx hb dX9_headFaults_39 rfl (lv_at hl 2 rfl) ?_
        refine lv_iadd hx hb dX9_headFaults_40 ?_
        obtain ⟨k15, hf⟩ := hf
        obtain ⟨h16, hf⟩ := hf
        refine gm_bald hx hb hK hW k15 h16 dX9_headFaults_41 ?_
        refine lv_icmp_eq (tgt := 47) hx hb dX9_headFaults_42 (by decide) (fun c17 => ?_) (fun c17 => ?_)
        · replace hf := hf.1 c17
          obtain ⟨x18, ex18⟩ : ∃ y : Int32, y = x5 + 1 := ⟨_, rfl⟩
          replace hf := hf x18 ex18
          refine lv_iinc (v := x18) (lv' := [(3, .int x18), (0, .ref v0), (2, .int x4)]) hx hb dX9_headFaults_47 hl (k := 2) rfl (by rw [ex18]; rfl) (by decide) rfl (fun ls hl => ?_)
          refine lv_goto (tgt := 16) hx hb dX9_headFaults_50 (by decide) ?_
          exact ih16 _ _ _ _ (lv_sub hl [1, 2, 0] rfl) hW hS hf
        · replace hf := hf.2 c17
          refine lv_iconst (v := 1) hx hb dX9_headFaults_45 (by decide +kernel) ?_
          exact gm_iret hx hb hr hlocks hW hS hf dX9_headFaults_46
  exact lp16 n16 _ _ _ _ (lv_sub hl [2, 1, 0] rfl) hW hS hf

abbrev rm_X9_isInOrder : Room := { frames := 5, cells := 0, slots := 0, locals := 149 }
def f_X9_isInOrder_48 (Y : Ly) (Kn : Int32 → Mm → Prop) (y7 : Int32) (M8 : Mm) : Prop :=
  bz y7 ∧ Kn y7 M8
def f_X9_isInOrder_47 (Y : Ly) (Kn : Int32 → Mm → Prop) (M9 : Mm) : Prop :=
  f_X9_isInOrder_48 Y Kn 0 M9
def f_X9_isInOrder (Y : Ly) (v0 : Nat) (v1 : Nat) (v2 : Int32) (v3 : Int64) (M : Mm) (Kn : Int32 → Mm → Prop) : Prop :=
  yK Y v0 = 9 ∧ (∃ b2 : Nat, mR M v0 0 = some b2 ∧ (yK Y b2 = 3 ∧ (∃ b4 : Nat, mR M b2 0 = some b4 ∧ (f_X0_baseOf Y b4 v2 M (fun r6 M5 => ((r6 < v3 → (f_X9_isInOrder_47 Y Kn M5)) ∧ (¬ (r6 < v3) → (∃ b11 : Nat, mR M5 v0 0 = some b11 ∧ (yK Y b11 = 3 ∧ (∃ b13 : Nat, mR M5 b11 0 = some b13 ∧ (f_X0_lastOf Y b13 v2 M5 (fun r15 M14 => (yK Y v1 = 8 ∧ (((mJ M14 v1 2) ≤ (r6 + r15.toInt64) → (f_X9_isInOrder_47 Y Kn M14)) ∧ (¬ ((mJ M14 v1 2) ≤ (r6 + r15.toInt64)) → (f_X9_isInOrder_48 Y Kn 1 M14))))))))))))))))
set_option maxHeartbeats 4000000 in
set_option maxRecDepth 100000 in
theorem m_X9_isInOrder (l : Launch) (D : va_G) (cy : Cy) (tq sz : Nat) (Y : Ly) (v0 : Nat) (v1 : Nat) (v2 : Int32) (v3 : Int64) (M : Mm) (Kn : Int32 → Mm → Prop) : Met l yX9_isInOrder (Cond.code yX9_isInOrder cX9_isInOrder 7 (some .boolean) :: TT) rm_X9_isInOrder (PcG D cy tq [.ref v0, .ref v1, .int v2, .long v3] sz Y M (f_X9_isInOrder Y v0 v1 v2 v3 M Kn)) (va_Qi Kn (BG D cy (Am Y sz) Y) (Am Y sz)) 0 0 (Am Y sz) := by
  refine Met.ofW (cc := cX9_isInOrder) (maxL := 7) (ret := (some .boolean)) (by decide) rfl ?_
  intro p e s m args below meth c s₁ B hml hv
  obtain ⟨hargs, hsz, hW, hK, hC, hf⟩ := hv
  subst hsz
  have hx := B.exec
  have hb := B.bytes
  have hr := B.returns
  have hts : ∀ w ∈ TT, w.before args s = true := fun w h => atoms_spec (ws := Cond.code yX9_isInOrder cX9_isInOrder 7 (some .boolean) :: TT) B.pre w (List.mem_cons_of_mem _ h)
  have hown : s.vm.findClass RX9 = some m.cls := findClass_of_methodNamed B.named
  have hlocks := B.notSynchronized
  replace hW := Wd_self (sz := s.heap.size) hW
  generalize hAe : Am Y s.heap.size = A at hW hC ⊢
  have hA : ∀ q : Nat, s.heap.size ≤ q → A q := fun q h => by rw [← hAe]; exact Or.inr h
  clear hAe
  have hS : va_S A s.heap s.heap [] := va_S.rf
  obtain ⟨ls, hE, hl⟩ := gm_entry m [.ref v0, .ref v1, .int v2, .long v3] (n := 7) hargs (Nat.le_of_ble_eq_true rfl)
  rw [hE]
  have hl : lv_has ls 7 [(0, .ref v0), (1, .ref v1), (2, .int v2), (3, .long v3)] := hl
  show W p l e rm_X9_isInOrder s m args below meth c s.heap [] 0 0 (MQ below (va_Qi Kn (BG D cy A Y) A) args s 0 0 A) (F0 m 0 ls [])
  unfold f_X9_isInOrder at hf
  refine lv_aload_n hx hb dX9_isInOrder_0 rfl (lv_at hl 0 rfl) ?_
  obtain ⟨k1, hf⟩ := hf
  obtain ⟨b2, hb2, hf⟩ := hf
  refine gm_getR (C := RX9) (T := TX9) (N := 7) (j := 0) hx hb hts inT_9 hown hK hW k1 (by decide) rfl (by decide) rfl (hts _ kw_213) rfl dX9_isInOrder_1 hb2 ?_
  obtain ⟨k3, hf⟩ := hf
  obtain ⟨b4, hb4, hf⟩ := hf
  refine gm_getR (C := RX3) (T := TX3) (N := 4) (j := 0) hx hb hts inT_3 hown hK hW k3 (by decide) rfl (by decide) rfl (hts _ kw_144) rfl dX9_isInOrder_4 hb4 ?_
  refine lv_iload_n hx hb dX9_isInOrder_7 rfl (lv_at hl 2 rfl) ?_
  refine gm_cl (va_runS (As := [.ref b4, .int v2]) (rest := []) ⟨hx, hb, hml, hown, hts⟩ (m_X0_baseOf l D cy tq _ Y _ _ _ _) (va_cwS 2 hts (good_S kw_884 kw_788 kw_20 kw_789) rfl rfl rfl (by decide +kernel) ⟨Nat.le_of_ble_eq_true rfl, Nat.le_of_ble_eq_true rfl⟩) (gm_preS hK hW hC hS hA hf) rfl rfl hl.1 rfl (lv_room (Nat.le_of_ble_eq_true rfl)) dX9_isInOrder_8 ⟨Nat.le_of_ble_eq_true rfl, Nat.le_of_ble_eq_true rfl⟩) hW hS hA (fun r6 M5 H locs hW hS hf => ?_)
  refine lv_lstore (lv' := [(5, .long r6), (0, .ref v0), (1, .ref v1), (2, .int v2), (3, .long v3)]) hx hb dX9_isInOrder_11 hl (by decide) rfl (fun ls hl => ?_)
  refine lv_lload hx hb dX9_isInOrder_13 (lv_at hl 0 rfl) ?_
  refine lv_lload_n hx hb dX9_isInOrder_15 rfl (lv_at hl 4 rfl) ?_
  refine W.lcmp hx hb dX9_isInOrder_16 ?_
  have j48 : ∀ (y7 : Int32) (M8 : Mm) (H : Heap) (locs : List Loc) (ls : Array Slot), lv_has ls 7 [] → Wd D cy A Y M8 H → va_S A s.heap H locs → f_X9_isInOrder_48 Y Kn y7 M8 → W p l e rm_X9_isInOrder s m args below meth c H locs 0 0 (MQ below (va_Qi Kn (BG D cy A Y) A) args s 0 0 A) (F0 m 48 ls [.int y7]) := by
    intro y7 M8 H locs ls hl hW hS hf
    unfold f_X9_isInOrder_48 at hf
    exact gm_zret hx hb hr hlocks hW hS hf.1 hf.2 dX9_isInOrder_48
  have j47 : ∀ (M9 : Mm) (H : Heap) (locs : List Loc) (ls : Array Slot), lv_has ls 7 [] → Wd D cy A Y M9 H → va_S A s.heap H locs → f_X9_isInOrder_47 Y Kn M9 → W p l e rm_X9_isInOrder s m args below meth c H locs 0 0 (MQ below (va_Qi Kn (BG D cy A Y) A) args s 0 0 A) (F0 m 47 ls []) := by
    intro M9 H locs ls hl hW hS hf
    unfold f_X9_isInOrder_47 at hf
    refine lv_iconst (v := 0) hx hb dX9_isInOrder_47 (by decide +kernel) ?_
    exact j48 _ _ _ _ _ (lv_sub hl [] rfl) hW hS hf
  refine lv_if_lt (tgt := 47) hx hb dX9_isInOrder_17 (by decide) (fun c10 => ?_) (fun c10 => ?_)
  · replace hf := hf.1 (lg_lt.mp c10)
    exact j47 _ _ _ _ (lv_sub hl [] rfl) hW hS hf
  · replace hf := hf.2 (fun z => c10 (lg_lt.mpr z))
    refine lv_lload hx hb dX9_isInOrder_20 (lv_at hl 0 rfl) ?_
    refine lv_aload_n hx hb dX9_isInOrder_22 rfl (lv_at hl 1 rfl) ?_
    obtain ⟨b11, hb11, hf⟩ := hf
    refine gm_getR (C := RX9) (T := TX9) (N := 7) (j := 0) hx hb hts inT_9 hown hK hW k1 (by decide) rfl (by decide) rfl (hts _ kw_213) rfl dX9_isInOrder_23 hb11 ?_
    obtain ⟨k12, hf⟩ := hf
    obtain ⟨b13, hb13, hf⟩ := hf
    refine gm_getR (C := RX3) (T := TX3) (N := 4) (j := 0) hx hb hts inT_3 hown hK hW k12 (by decide) rfl (by decide) rfl (hts _ kw_144) rfl dX9_isInOrder_26 hb13 ?_
    refine lv_iload_n hx hb dX9_isInOrder_29 rfl (lv_at hl 3 rfl) ?_
    refine gm_ci (va_runS (As := [.ref b13, .int v2]) (rest := [.long r6]) ⟨hx, hb, hml, hown, hts⟩ (m_X0_lastOf l D cy tq _ Y _ _ _ _) (va_cwS 2 hts (good_S kw_883 kw_792 kw_20 kw_793) rfl rfl rfl (by decide +kernel) ⟨Nat.le_of_ble_eq_true rfl, Nat.le_of_ble_eq_true rfl⟩) (gm_preS hK hW hC hS hA hf) rfl rfl hl.1 rfl (lv_room (Nat.le_of_ble_eq_true rfl)) dX9_isInOrder_30 ⟨Nat.le_of_ble_eq_true rfl, Nat.le_of_ble_eq_true rfl⟩) hW hS hA (fun r15 M14 H locs hW hS hf => ?_)
    refine lv_i2l hx hb dX9_isInOrder_33 rfl ?_
    refine lv_ladd hx hb dX9_isInOrder_34 ?_
    refine lv_aload_n hx hb dX9_isInOrder_35 rfl (lv_at hl 2 rfl) ?_
    obtain ⟨k16, hf⟩ := hf
    refine gm_getJ (C := RX8) (T := TX8) (N := 9) (j := 2) hx hb hts inT_8 hown hK hW k16 (by decide) rfl (by decide) rfl (hts _ kw_176) rfl dX9_isInOrder_36 ?_
    refine W.lcmp hx hb dX9_isInOrder_39 ?_
    refine lv_if_ge (tgt := 47) hx hb dX9_isInOrder_40 (by decide) (fun c17 => ?_) (fun c17 => ?_)
    · replace hf := hf.1 (lg_ge.mp c17)
      exact j47 _ _ _ _ (lv_sub hl [] rfl) hW hS hf
    · replace hf := hf.2 (fun z => c17 (lg_ge.mpr z))
      refine lv_iconst (v := 1) hx hb dX9_isInOrder_43 (by decide +kernel) ?_
      refine lv_goto (tgt := 48) hx hb dX9_isInOrder_44 (by decide) ?_
      exact j48 _ _ _ _ _ (lv_sub hl [] rfl) hW hS hf

abbrev rm_X9_batchFaults : Room := { frames := 6, cells := 0, slots := 0, locals := 175 }
def f_X9_batchFaults_228 (Y : Ly) (x6 : Int32) (again13 : Int32 → Int32 → Int64 → Int32 → Mm → Prop) (x18 : Int32) (x19 : Int64) (M22 : Mm) (x26 : Int32) : Prop :=
  ∀ x27 : Int32, x27 = x6 + 1 → (again13 x26 x18 x19 x27 M22)
def f_X9_batchFaults_218 (Y : Ly) (x6 : Int32) (again13 : Int32 → Int32 → Int64 → Int32 → Mm → Prop) (x16 : Int32) (x17 : Int32) (x18 : Int32) (x19 : Int64) (x20 : Int32) (M22 : Mm) : Prop :=
  (x20 = x16 → (f_X9_batchFaults_228 Y x6 again13 x18 x19 M22 x17)) ∧ (¬ (x20 = x16) → (∀ x29 : Int32, x29 = x17 + 1 → (f_X9_batchFaults_228 Y x6 again13 x18 x19 M22 x29)))
def f_X9_batchFaults_160 (Y : Ly) (v0 : Nat) (v1 : Nat) (x18 : Int32) (x21 : Int32) (again50 : Int32 → Int32 → Int64 → Int32 → Int32 → Mm → Prop) (r40 : Int32) (x45 : Int32) (M46 : Mm) : Prop :=
  ∃ b47 : Nat, mR M46 v0 0 = some b47 ∧ (yK Y b47 = 3 ∧ (∃ b49 : Nat, mR M46 b47 0 = some b49 ∧ (∃ b50 : Nat, mR M46 v1 8 = some b50 ∧ (yK Y b50 = 101 ∧ (vp_in x18 (yN Y b50) ∧ (f_X0_baseOf Y b49 (mI M46 b50 x18.toNatClampNeg) M46 (fun r54 M53 => (∃ b55 : Nat, mR M53 v0 0 = some b55 ∧ (yK Y b55 = 3 ∧ (∃ b57 : Nat, mR M53 b55 0 = some b57 ∧ (∃ b58 : Nat, mR M53 v1 8 = some b58 ∧ (yK Y b58 = 101 ∧ (vp_in x18 (yN Y b58) ∧ (f_X0_lastOf Y b57 (mI M53 b58 x18.toNatClampNeg) M53 (fun r62 M61 => (∀ x63 : Int64, x63 = (r54 + r62.toInt64) + 1 → (∃ b64 : Nat, mR M61 v1 8 = some b64 ∧ (yK Y b64 = 101 ∧ (vp_in x18 (yN Y b64) ∧ (∀ x67 : Int32, x67 = (mI M61 b64 x18.toNatClampNeg) + r40 → (∀ x68 : Int32, x68 = x18 + 1 → (∀ x69 : Int32, x69 = x21 + 1 → (again50 x45 x68 x63 x67 x69 M61)))))))))))))))))))))))
def f_X9_batchFaults_157 (Y : Ly) (v0 : Nat) (v1 : Nat) (x17 : Int32) (x18 : Int32) (x21 : Int32) (again50 : Int32 → Int32 → Int64 → Int32 → Int32 → Mm → Prop) (r40 : Int32) (M70 : Mm) : Prop :=
  ∀ x71 : Int32, x71 = x17 + 1 → (f_X9_batchFaults_160 Y v0 v1 x18 x21 again50 r40 x71 M70)
def f_X9_batchFaults_121 (Y : Ly) (v0 : Nat) (v1 : Nat) (x17 : Int32) (x18 : Int32) (x19 : Int64) (x20 : Int32) (x21 : Int32) (again50 : Int32 → Int32 → Int64 → Int32 → Int32 → Mm → Prop) (M39 : Mm) (r40 : Int32) (y44 : Int32) : Prop :=
  (y44 = 0 → (f_X9_batchFaults_157 Y v0 v1 x17 x18 x21 again50 r40 M39)) ∧ (¬ (y44 = 0) → (∃ b73 : Nat, mR M39 v0 0 = some b73 ∧ (yK Y b73 = 3 ∧ (∃ b75 : Nat, mR M39 b73 0 = some b75 ∧ (f_X0_hasTrueChecksum Y b75 x20 r40 M39 (fun r77 M76 => ((r77 = 0 → (f_X9_batchFaults_157 Y v0 v1 x17 x18 x21 again50 r40 M76)) ∧ (¬ (r77 = 0) → (f_X9_isInOrder Y v0 v1 x20 x19 M76 (fun r80 M79 => ((¬ r80 = 0 → (f_X9_batchFaults_160 Y v0 v1 x18 x21 again50 r40 x17 M79)) ∧ (r80 = 0 → (f_X9_batchFaults_157 Y v0 v1 x17 x18 x21 again50 r40 M79)))))))))))))
def f_X9_batchFaults_120 (Y : Ly) (v0 : Nat) (v1 : Nat) (x17 : Int32) (x18 : Int32) (x19 : Int64) (x20 : Int32) (x21 : Int32) (again50 : Int32 → Int32 → Int64 → Int32 → Int32 → Mm → Prop) (M39 : Mm) (r40 : Int32) : Prop :=
  f_X9_batchFaults_121 Y v0 v1 x17 x18 x19 x20 x21 again50 M39 r40 0
def L_X9_batchFaults_50 (Y : Ly) (v0 : Nat) (v1 : Nat) (x6 : Int32) (again13 : Int32 → Int32 → Int64 → Int32 → Mm → Prop) (x16 : Int32) (x17 : Int32) (x18 : Int32) (x19 : Int64) (x20 : Int32) (x21 : Int32) (M22 : Mm) (again50 : Int32 → Int32 → Int64 → Int32 → Int32 → Mm → Prop) : Prop :=
  ∃ b23 : Nat, mR M22 v1 6 = some b23 ∧ (yK Y b23 = 101 ∧ (vp_in x6 (yN Y b23) ∧ (((mI M22 b23 x6.toNatClampNeg) ≤ x21 → (f_X9_batchFaults_218 Y x6 again13 x16 x17 x18 x19 x20 M22)) ∧ (¬ ((mI M22 b23 x6.toNatClampNeg) ≤ x21) → (((mI M22 v1 7) ≤ x18 → (f_X9_batchFaults_218 Y x6 again13 x16 x17 x18 x19 x20 M22)) ∧ (¬ ((mI M22 v1 7) ≤ x18) → (yK Y v0 = 9 ∧ (∃ b33 : Nat, mR M22 v0 0 = some b33 ∧ (yK Y b33 = 3 ∧ (∃ b35 : Nat, mR M22 b33 0 = some b35 ∧ (∃ b36 : Nat, mR M22 v1 8 = some b36 ∧ (yK Y b36 = 101 ∧ (vp_in x18 (yN Y b36) ∧ (f_X0_sizeOf Y b35 (mI M22 b36 x18.toNatClampNeg) M22 (fun r40 M39 => (∃ b41 : Nat, mR M39 v1 8 = some b41 ∧ (yK Y b41 = 101 ∧ (vp_in x18 (yN Y b41) ∧ ((¬ (mI M39 b41 x18.toNatClampNeg) = x20 → (f_X9_batchFaults_120 Y v0 v1 x17 x18 x19 x20 x21 again50 M39 r40)) ∧ ((mI M39 b41 x18.toNatClampNeg) = x20 → ((r40 < 61 → (f_X9_batchFaults_120 Y v0 v1 x17 x18 x19 x20 x21 again50 M39 r40)) ∧ (¬ (r40 < 61) → (((x16 - x20) < r40 → (f_X9_batchFaults_120 Y v0 v1 x17 x18 x19 x20 x21 again50 M39 r40)) ∧ (¬ ((x16 - x20) < r40) → (f_X9_batchFaults_121 Y v0 v1 x17 x18 x19 x20 x21 again50 M39 r40 1)))))))))))))))))))))))))
def L_X9_batchFaults_13 (Y : Ly) (v0 : Nat) (v1 : Nat) (Kn : Int32 → Mm → Prop) (x3 : Int32) (x4 : Int32) (x5 : Int64) (x6 : Int32) (M7 : Mm) (again13 : Int32 → Int32 → Int64 → Int32 → Mm → Prop) : Prop :=
  ((mI M7 v1 3) ≤ x6 → (Kn x3 M7)) ∧ (¬ ((mI M7 v1 3) ≤ x6) → (∃ b9 : Nat, mR M7 v1 4 = some b9 ∧ (yK Y b9 = 101 ∧ (vp_in x6 (yN Y b9) ∧ (∀ x12 : Int32, x12 = (mI M7 b9 x6.toNatClampNeg) * 1024 → (∃ b13 : Nat, mR M7 v1 5 = some b13 ∧ (yK Y b13 = 101 ∧ (vp_in x6 (yN Y b13) ∧ (∀ x16 : Int32, x16 = x12 + (mI M7 b13 x6.toNatClampNeg) → (∃ n, LOOP6 (L_X9_batchFaults_50 Y v0 v1 x6 again13 x16) n x3 x4 x5 x12 0 M7))))))))))
def f_X9_batchFaults (Y : Ly) (v0 : Nat) (v1 : Nat) (M : Mm) (Kn : Int32 → Mm → Prop) : Prop :=
  yK Y v1 = 8 ∧ (∀ x2 : Int64, x2 = mJ M v1 1 → (∃ n, LOOP5 (L_X9_batchFaults_13 Y v0 v1 Kn) n 0 0 x2 0 M))
set_option maxHeartbeats 4000000 in
set_option maxRecDepth 100000 in
theorem m_X9_batchFaults (l : Launch) (D : va_G) (cy : Cy) (tq sz : Nat) (Y : Ly) (v0 : Nat) (v1 : Nat) (M : Mm) (Kn : Int32 → Mm → Prop) : Met l yX9_batchFaults (Cond.code yX9_batchFaults cX9_batchFaults 12 (some .int) :: TT) rm_X9_batchFaults (PcG D cy tq [.ref v0, .ref v1] sz Y M (f_X9_batchFaults Y v0 v1 M Kn)) (va_Qi Kn (BG D cy (Am Y sz) Y) (Am Y sz)) 0 0 (Am Y sz) := by
  refine Met.ofW (cc := cX9_batchFaults) (maxL := 12) (ret := (some .int)) (by decide) rfl ?_
  intro p e s m args below meth c s₁ B hml hv
  obtain ⟨hargs, hsz, hW, hK, hC, hf⟩ := hv
  subst hsz
  have hx := B.exec
  have hb := B.bytes
  have hr := B.returns
  have hts : ∀ w ∈ TT, w.before args s = true := fun w h => atoms_spec (ws := Cond.code yX9_batchFaults cX9_batchFaults 12 (some .int) :: TT) B.pre w (List.mem_cons_of_mem _ h)
  have hown : s.vm.findClass RX9 = some m.cls := findClass_of_methodNamed B.named
  have hlocks := B.notSynchronized
  replace hW := Wd_self (sz := s.heap.size) hW
  generalize hAe : Am Y s.heap.size = A at hW hC ⊢
  have hA : ∀ q : Nat, s.heap.size ≤ q → A q := fun q h => by rw [← hAe]; exact Or.inr h
  clear hAe
  have hS : va_S A s.heap s.heap [] := va_S.rf
  obtain ⟨ls, hE, hl⟩ := gm_entry m [.ref v0, .ref v1] (n := 12) hargs (Nat.le_of_ble_eq_true rfl)
  rw [hE]
  have hl : lv_has ls 12 [(0, .ref v0), (1, .ref v1)] := hl
  show W p l e rm_X9_batchFaults s m args below meth c s.heap [] 0 0 (MQ below (va_Qi Kn (BG D cy A Y) A) args s 0 0 A) (F0 m 0 ls [])
  unfold f_X9_batchFaults at hf
  refine lv_iconst (v := 0) hx hb dX9_batchFaults_0 (by decide +kernel) ?_
  refine lv_istore_n (lv' := [(2, .int 0), (0, .ref v0), (1, .ref v1)]) hx hb dX9_batchFaults_1 rfl hl (by decide) rfl (fun ls hl => ?_)
  refine lv_iconst (v := 0) hx hb dX9_batchFaults_2 (by decide +kernel) ?_
  refine lv_istore_n (lv' := [(3, .int 0), (2, .int 0), (0, .ref v0), (1, .ref v1)]) hx hb dX9_batchFaults_3 rfl hl (by decide) rfl (fun ls hl => ?_)
  refine lv_aload_n hx hb dX9_batchFaults_4 rfl (lv_at hl 3 rfl) ?_
  obtain ⟨k1, hf⟩ := hf
  refine gm_getJ (C := RX8) (T := TX8) (N := 9) (j := 1) hx hb hts inT_8 hown hK hW k1 (by decide) rfl (by decide) rfl (hts _ kw_174) rfl dX9_batchFaults_5 ?_
  refine lv_topl (fun x2 ex2 => ?_)
  replace hf := hf x2 ex2
  refine lv_lstore (lv' := [(4, .long x2), (3, .int 0), (2, .int 0), (0, .ref v0), (1, .ref v1)]) hx hb dX9_batchFaults_8 hl (by decide) rfl (fun ls hl => ?_)
  refine lv_iconst (v := 0) hx hb dX9_batchFaults_10 (by decide +kernel) ?_
  refine lv_istore (lv' := [(6, .int 0), (4, .long x2), (3, .int 0), (2, .int 0), (0, .ref v0), (1, .ref v1)]) hx hb dX9_batchFaults_11 hl (by decide) rfl (fun ls hl => ?_)
  obtain ⟨n13, hf⟩ := hf
  have lp13 : ∀ (n13 : Nat) (x3 : Int32) (x4 : Int32) (x5 : Int64) (x6 : Int32) (M7 : Mm) (H : Heap) (locs : List Loc) (ls : Array Slot), lv_has ls 12 [(0, .ref v0), (1, .ref v1), (2, .int x3), (3, .int x4), (4, .long x5), (6, .int x6)] → Wd D cy A Y M7 H → va_S A s.heap H locs → LOOP5 (L_X9_batchFaults_13 Y v0 v1 Kn) n13 x3 x4 x5 x6 M7 → W p l e rm_X9_batchFaults s m args below meth c H locs 0 0 (MQ below (va_Qi Kn (BG D cy A Y) A) args s 0 0 A) (F0 m 13 ls []) := by
    intro n13
    induction n13 with
    | zero => intro x3 x4 x5 x6 M7 H locs ls hl hW hS hf; exact hf.elim
    | succ n13 ih13 =>
      intro x3 x4 x5 x6 M7 H locs ls hl hW hS hf
      replace hf : L_X9_batchFaults_13 Y v0 v1 Kn x3 x4 x5 x6 M7 (LOOP5 (L_X9_batchFaults_13 Y v0 v1 Kn) n13) := hf
      unfold L_X9_batchFaults_13 at hf
      refine lv_iload hx hb dX9_batchFaults_13 (lv_at hl 5 rfl) ?_
      refine lv_aload_n hx hb dX9_batchFaults_15 rfl (lv_at hl 1 rfl) ?_
      refine gm_getI (C := RX8) (T := TX8) (N := 9) (j := 3) hx hb hts inT_8 hown hK hW k1 (by decide) rfl (by decide) rfl (hts _ kw_180) rfl dX9_batchFaults_16 ?_
      refine lv_icmp_ge (tgt := 234) hx hb dX9_batchFaults_19 (by decide) (fun c8 => ?_) (fun c8 => ?_)
      · replace hf := hf.1 c8
        refine lv_iload_n hx hb dX9_batchFaults_234 rfl (lv_at hl 2 rfl) ?_
        exact gm_iret hx hb hr hlocks hW hS hf dX9_batchFaults_235
      · replace hf := hf.2 c8
        refine lv_aload_n hx hb dX9_batchFaults_22 rfl (lv_at hl 1 rfl) ?_
        obtain ⟨b9, hb9, hf⟩ := hf
        refine gm_getR (C := RX8) (T := TX8) (N := 9) (j := 4) hx hb hts inT_8 hown hK hW k1 (by decide) rfl (by decide) rfl (hts _ kw_184) rfl dX9_batchFaults_23 hb9 ?_
        refine lv_iload hx hb dX9_batchFaults_26 (lv_at hl 5 rfl) ?_
        obtain ⟨k10, hf⟩ := hf
        obtain ⟨h11, hf⟩ := hf
        refine gm_iald hx hb hK hW k10 h11 dX9_batchFaults_28 ?_
        refine lv_sipush (v := 1024) hx hb dX9_batchFaults_29 (by decide +kernel) ?_
        refine lv_imul hx hb dX9_batchFaults_32 ?_
        refine lv_topi (fun x12 ex12 => ?_)
        replace hf := hf x12 ex12
        refine lv_istore (lv' := [(7, .int x12), (0, .ref v0), (1, .ref v1), (2, .int x3), (3, .int x4), (4, .long x5), (6, .int x6)]) hx hb dX9_batchFaults_33 hl (by decide) rfl (fun ls hl => ?_)
        refine lv_iload hx hb dX9_batchFaults_35 (lv_at hl 0 rfl) ?_
        refine lv_aload_n hx hb dX9_batchFaults_37 rfl (lv_at hl 2 rfl) ?_
        obtain ⟨b13, hb13, hf⟩ := hf
        refine gm_getR (C := RX8) (T := TX8) (N := 9) (j := 5) hx hb hts inT_8 hown hK hW k1 (by decide) rfl (by decide) rfl (hts _ kw_186) rfl dX9_batchFaults_38 hb13 ?_
        refine lv_iload hx hb dX9_batchFaults_41 (lv_at hl 6 rfl) ?_
        obtain ⟨k14, hf⟩ := hf
        obtain ⟨h15, hf⟩ := hf
        refine gm_iald hx hb hK hW k14 h15 dX9_batchFaults_43 ?_
        refine lv_iadd hx hb dX9_batchFaults_44 ?_
        refine lv_topi (fun x16 ex16 => ?_)
        replace hf := hf x16 ex16
        refine lv_istore (lv' := [(8, .int x16), (7, .int x12), (0, .ref v0), (1, .ref v1), (2, .int x3), (3, .int x4), (4, .long x5), (6, .int x6)]) hx hb dX9_batchFaults_45 hl (by decide) rfl (fun ls hl => ?_)
        refine lv_iconst (v := 0) hx hb dX9_batchFaults_47 (by decide +kernel) ?_
        refine lv_istore (lv' := [(9, .int 0), (8, .int x16), (7, .int x12), (0, .ref v0), (1, .ref v1), (2, .int x3), (3, .int x4), (4, .long x5), (6, .int x6)]) hx hb dX9_batchFaults_48 hl (by decide) rfl (fun ls hl => ?_)
        obtain ⟨n50, hf⟩ := hf
        have lp50 : ∀ (n50 : Nat) (x17 : Int32) (x18 : Int32) (x19 : Int64) (x20 : Int32) (x21 : Int32) (M22 : Mm) (H : Heap) (locs : List Loc) (ls : Array Slot), lv_has ls 12 [(0, .ref v0), (1, .ref v1), (2, .int x17), (3, .int x18), (4, .long x19), (6, .int x6), (7, .int x20), (8, .int x16), (9, .int x21)] → Wd D cy A Y M22 H → va_S A s.heap H locs → LOOP6 (L_X9_batchFaults_50 Y v0 v1 x6 (LOOP5 (L_X9_batchFaults_13 Y v0 v1 Kn) n13) x16) n50 x17 x18 x19 x20 x21 M22 → W p l e rm_X9_batchFaults s m args below meth c H locs 0 0 (MQ below (va_Qi Kn (BG D cy A Y) A) args s 0 0 A) (F0 m 50 ls []) := by
          intro n50
          induction n50 with
          | zero => intro x17 x18 x19 x20 x21 M22 H locs ls hl hW hS hf; exact hf.elim
          | succ n50 ih50 =>
            intro x17 x18 x19 x20 x21 M22 H locs ls hl hW hS hf
            replace hf : L_X9_batchFaults_50 Y v0 v1 x6 (LOOP5 (L_X9_batchFaults_13 Y v0 v1 Kn) n13) x16 x17 x18 x19 x20 x21 M22 (LOOP6 (L_X9_batchFaults_50 Y v0 v1 x6 (LOOP5 (L_X9_batchFaults_13 Y v0 v1 Kn) n13) x16) n50) := hf
            unfold L_X9_batchFaults_50 at hf
            refine lv_iload hx hb dX9_batchFaults_50 (lv_at hl 8 rfl) ?_
            refine lv_aload_n hx hb dX9_batchFaults_52 rfl (lv_at hl 1 rfl) ?_
            obtain ⟨b23, hb23, hf⟩ := hf
            refine gm_getR (C := RX8) (T := TX8) (N := 9) (j := 6) hx hb hts inT_8 hown hK hW k1 (by decide) rfl (by decide) rfl (hts _ kw_189) rfl dX9_batchFaults_53 hb23 ?_
            refine lv_iload hx hb dX9_batchFaults_56 (lv_at hl 5 rfl) ?_
            obtain ⟨k24, hf⟩ := hf
            obtain ⟨h25, hf⟩ := hf
            refine gm_iald hx hb hK hW k24 h25 dX9_batchFaults_58 ?_
            have j218 : ∀ (H : Heap) (locs : List Loc) (ls : Array Slot), lv_has ls 12 [(0, .ref v0), (1, .ref v1), (2, .int x17), (3, .int x18), (4, .long x19), (6, .int x6), (7, .int x20), (8, .int x16)] → Wd D cy A Y M22 H → va_S A s.heap H locs → f_X9_batchFaults_218 Y x6 (LOOP5 (L_X9_batchFaults_13 Y v0 v1 Kn) n13) x16 x17 x18 x19 x20 M22  → W p l e rm_X9_batchFaults s m args below meth c H locs 0 0 (MQ below (va_Qi Kn (BG D cy A Y) A) args s 0 0 A) (F0 m 218 ls []) := by
              intro  H locs ls hl hW hS hf
              unfold f_X9_batchFaults_218 at hf
              refine lv_iload hx hb dX9_batchFaults_218 (lv_at hl 6 rfl) ?_
              refine lv_iload hx hb dX9_batchFaults_220 (lv_at hl 7 rfl) ?_
              have j228 : ∀ (x26 : Int32) (H : Heap) (locs : List Loc) (ls : Array Slot), lv_has ls 12 [(0, .ref v0), (1, .ref v1), (2, .int x26), (3, .int x18), (4, .long x19), (6, .int x6)] → Wd D cy A Y M22 H → va_S A s.heap H locs → f_X9_batchFaults_228 Y x6 (LOOP5 (L_X9_batchFaults_13 Y v0 v1 Kn) n13) x18 x19 M22 x26 → W p l e rm_X9_batchFaults s m args below meth c H locs 0 0 (MQ below (va_Qi Kn (BG D cy A Y) A) args s 0 0 A) (F0 m 228 ls []) := by
                intro x26 H locs ls hl hW hS hf
                unfold f_X9_batchFaults_228 at hf
                obtain ⟨x27, ex27⟩ : ∃ y : Int32, y = x6 + 1 := ⟨_, rfl⟩
                replace hf := hf x27 ex27
                refine lv_iinc (v := x27) (lv' := [(6, .int x27), (0, .ref v0), (1, .ref v1), (2, .int x26), (3, .int x18), (4, .long x19)]) hx hb dX9_batchFaults_228 hl (k := 5) rfl (by rw [ex27]; rfl) (by decide) rfl (fun ls hl => ?_)
                refine lv_goto (tgt := 13) hx hb dX9_batchFaults_231 (by decide) ?_
                exact ih13 _ _ _ _ _ _ _ _ (lv_sub hl [1, 2, 3, 4, 5, 0] rfl) hW hS hf
              refine lv_icmp_eq (tgt := 228) hx hb dX9_batchFaults_222 (by decide) (fun c28 => ?_) (fun c28 => ?_)
              · replace hf := hf.1 c28
                exact j228 _ _ _ _ (lv_sub hl [0, 1, 2, 3, 4, 5] rfl) hW hS hf
              · replace hf := hf.2 c28
                obtain ⟨x29, ex29⟩ : ∃ y : Int32, y = x17 + 1 := ⟨_, rfl⟩
                replace hf := hf x29 ex29
                refine lv_iinc (v := x29) (lv' := [(2, .int x29), (0, .ref v0), (1, .ref v1), (3, .int x18), (4, .long x19), (6, .int x6), (7, .int x20), (8, .int x16)]) hx hb dX9_batchFaults_225 hl (k := 2) rfl (by rw [ex29]; rfl) (by decide) rfl (fun ls hl => ?_)
                exact j228 _ _ _ _ (lv_sub hl [1, 2, 0, 3, 4, 5] rfl) hW hS hf
            refine lv_icmp_ge (tgt := 218) hx hb dX9_batchFaults_59 (by decide) (fun c30 => ?_) (fun c30 => ?_)
            · replace hf := hf.1 c30
              exact j218  _ _ _ (lv_sub hl [0, 1, 2, 3, 4, 5, 6, 7] rfl) hW hS hf
            · replace hf := hf.2 c30
              refine lv_iload_n hx hb dX9_batchFaults_62 rfl (lv_at hl 3 rfl) ?_
              refine lv_aload_n hx hb dX9_batchFaults_63 rfl (lv_at hl 1 rfl) ?_
              refine gm_getI (C := RX8) (T := TX8) (N := 9) (j := 7) hx hb hts inT_8 hown hK hW k1 (by decide) rfl (by decide) rfl (hts _ kw_192) rfl dX9_batchFaults_64 ?_
              refine lv_icmp_ge (tgt := 218) hx hb dX9_batchFaults_67 (by decide) (fun c31 => ?_) (fun c31 => ?_)
              · replace hf := hf.1 c31
                exact j218  _ _ _ (lv_sub hl [0, 1, 2, 3, 4, 5, 6, 7] rfl) hW hS hf
              · replace hf := hf.2 c31
                refine lv_aload_n hx hb dX9_batchFaults_70 rfl (lv_at hl 0 rfl) ?_
                obtain ⟨k32, hf⟩ := hf
                obtain ⟨b33, hb33, hf⟩ := hf
                refine gm_getR (C := RX9) (T := TX9) (N := 7) (j := 0) hx hb hts inT_9 hown hK hW k32 (by decide) rfl (by decide) rfl (hts _ kw_213) rfl dX9_batchFaults_71 hb33 ?_
                obtain ⟨k34, hf⟩ := hf
                obtain ⟨b35, hb35, hf⟩ := hf
                refine gm_getR (C := RX3) (T := TX3) (N := 4) (j := 0) hx hb hts inT_3 hown hK hW k34 (by decide) rfl (by decide) rfl (hts _ kw_144) rfl dX9_batchFaults_74 hb35 ?_
                refine lv_aload_n hx hb dX9_batchFaults_77 rfl (lv_at hl 1 rfl) ?_
                obtain ⟨b36, hb36, hf⟩ := hf
                refine gm_getR (C := RX8) (T := TX8) (N := 9) (j := 8) hx hb hts inT_8 hown hK hW k1 (by decide) rfl (by decide) rfl (hts _ kw_197) rfl dX9_batchFaults_78 hb36 ?_
                refine lv_iload_n hx hb dX9_batchFaults_81 rfl (lv_at hl 3 rfl) ?_
                obtain ⟨k37, hf⟩ := hf
                obtain ⟨h38, hf⟩ := hf
                refine gm_iald hx hb hK hW k37 h38 dX9_batchFaults_82 ?_
                refine gm_ci (va_runS (As := [.ref b35, .int (mI M22 b36 x18.toNatClampNeg)]) (rest := []) ⟨hx, hb, hml, hown, hts⟩ (m_X0_sizeOf l D cy tq _ Y _ _ _ _) (va_cwS 2 hts (good_S kw_354 kw_355 kw_20 kw_356) rfl rfl rfl (by decide +kernel) ⟨Nat.le_of_ble_eq_true rfl, Nat.le_of_ble_eq_true rfl⟩) (gm_preS hK hW hC hS hA hf) rfl rfl hl.1 rfl (lv_room (Nat.le_of_ble_eq_true rfl)) dX9_batchFaults_83 ⟨Nat.le_of_ble_eq_true rfl, Nat.le_of_ble_eq_true rfl⟩) hW hS hA (fun r40 M39 H locs hW hS hf => ?_)
                refine lv_istore (lv' := [(10, .int r40), (0, .ref v0), (1, .ref v1), (2, .int x17), (3, .int x18), (4, .long x19), (6, .int x6), (7, .int x20), (8, .int x16), (9, .int x21)]) hx hb dX9_batchFaults_86 hl (by decide) rfl (fun ls hl => ?_)
                refine lv_aload_n hx hb dX9_batchFaults_88 rfl (lv_at hl 2 rfl) ?_
                obtain ⟨b41, hb41, hf⟩ := hf
                refine gm_getR (C := RX8) (T := TX8) (N := 9) (j := 8) hx hb hts inT_8 hown hK hW k1 (by decide) rfl (by decide) rfl (hts _ kw_197) rfl dX9_batchFaults_89 hb41 ?_
                refine lv_iload_n hx hb dX9_batchFaults_92 rfl (lv_at hl 4 rfl) ?_
                obtain ⟨k42, hf⟩ := hf
                obtain ⟨h43, hf⟩ := hf
                refine gm_iald hx hb hK hW k42 h43 dX9_batchFaults_93 ?_
                refine lv_iload hx hb dX9_batchFaults_94 (lv_at hl 7 rfl) ?_
                have j121 : ∀ (y44 : Int32) (H : Heap) (locs : List Loc) (ls : Array Slot), lv_has ls 12 [(0, .ref v0), (1, .ref v1), (2, .int x17), (3, .int x18), (4, .long x19), (6, .int x6), (7, .int x20), (8, .int x16), (9, .int x21), (10, .int r40)] → Wd D cy A Y M39 H → va_S A s.heap H locs → f_X9_batchFaults_121 Y v0 v1 x17 x18 x19 x20 x21 (LOOP6 (L_X9_batchFaults_50 Y v0 v1 x6 (LOOP5 (L_X9_batchFaults_13 Y v0 v1 Kn) n13) x16) n50) M39 r40 y44 → W p l e rm_X9_batchFaults s m args below meth c H locs 0 0 (MQ below (va_Qi Kn (BG D cy A Y) A) args s 0 0 A) (F0 m 121 ls [.int y44]) := by
                  intro y44 H locs ls hl hW hS hf
                  unfold f_X9_batchFaults_121 at hf
                  refine lv_istore (lv' := [(11, .int y44), (0, .ref v0), (1, .ref v1), (2, .int x17), (3, .int x18), (4, .long x19), (6, .int x6), (7, .int x20), (8, .int x16), (9, .int x21), (10, .int r40)]) hx hb dX9_batchFaults_121 hl (by decide) rfl (fun ls hl => ?_)
                  refine lv_iload hx hb dX9_batchFaults_123 (lv_at hl 0 rfl) ?_
                  have j160 : ∀ (x45 : Int32) (M46 : Mm) (H : Heap) (locs : List Loc) (ls : Array Slot), lv_has ls 12 [(0, .ref v0), (1, .ref v1), (2, .int x45), (3, .int x18), (6, .int x6), (8, .int x16), (9, .int x21), (10, .int r40)] → Wd D cy A Y M46 H → va_S A s.heap H locs → f_X9_batchFaults_160 Y v0 v1 x18 x21 (LOOP6 (L_X9_batchFaults_50 Y v0 v1 x6 (LOOP5 (L_X9_batchFaults_13 Y v0 v1 Kn) n13) x16) n50) r40 x45 M46 → W p l e rm_X9_batchFaults s m args below meth c H locs 0 0 (MQ below (va_Qi Kn (BG D cy A Y) A) args s 0 0 A) (F0 m 160 ls []) := by
                    intro x45 M46 H locs ls hl hW hS hf
                    unfold f_X9_batchFaults_160 at hf
                    refine lv_aload_n hx hb dX9_batchFaults_160 rfl (lv_at hl 0 rfl) ?_
                    obtain ⟨b47, hb47, hf⟩ := hf
                    refine gm_getR (C := RX9) (T := TX9) (N := 7) (j := 0) hx hb hts inT_9 hown hK hW k32 (by decide) rfl (by decide) rfl (hts _ kw_213) rfl dX9_batchFaults_161 hb47 ?_
                    obtain ⟨k48, hf⟩ := hf
                    obtain ⟨b49, hb49, hf⟩ := hf
                    refine gm_getR (C := RX3) (T := TX3) (N := 4) (j := 0) hx hb hts inT_3 hown hK hW k48 (by decide) rfl (by decide) rfl (hts _ kw_144) rfl dX9_batchFaults_164 hb49 ?_
                    refine lv_aload_n hx hb dX9_batchFaults_167 rfl (lv_at hl 1 rfl) ?_
                    obtain ⟨b50, hb50, hf⟩ := hf
                    refine gm_getR (C := RX8) (T := TX8) (N := 9) (j := 8) hx hb hts inT_8 hown hK hW k1 (by decide) rfl (by decide) rfl (hts _ kw_197) rfl dX9_batchFaults_168 hb50 ?_
                    refine lv_iload_n hx hb dX9_batchFaults_171 rfl (lv_at hl 3 rfl) ?_
                    obtain ⟨k51, hf⟩ := hf
                    obtain ⟨h52, hf⟩ := hf
                    refine gm_iald hx hb hK hW k51 h52 dX9_batchFaults_172 ?_
                    refine gm_cl (va_runS (As := [.ref b49, .int (mI M46 b50 x18.toNatClampNeg)]) (rest := []) ⟨hx, hb, hml, hown, hts⟩ (m_X0_baseOf l D cy tq _ Y _ _ _ _) (va_cwS 2 hts (good_S kw_884 kw_788 kw_20 kw_789) rfl rfl rfl (by decide +kernel) ⟨Nat.le_of_ble_eq_true rfl, Nat.le_of_ble_eq_true rfl⟩) (gm_preS hK hW hC hS hA hf) rfl rfl hl.1 rfl (lv_room (Nat.le_of_ble_eq_true rfl)) dX9_batchFaults_173 ⟨Nat.le_of_ble_eq_true rfl, Nat.le_of_ble_eq_true rfl⟩) hW hS hA (fun r54 M53 H locs hW hS hf => ?_)
                    refine lv_aload_n hx hb dX9_batchFaults_176 rfl (lv_at hl 0 rfl) ?_
                    obtain ⟨b55, hb55, hf⟩ := hf
                    refine gm_getR (C := RX9) (T := TX9) (N := 7) (j := 0) hx hb hts inT_9 hown hK hW k32 (by decide) rfl (by decide) rfl (hts _ kw_213) rfl dX9_batchFaults_177 hb55 ?_
                    obtain ⟨k56, hf⟩ := hf
                    obtain ⟨b57, hb57, hf⟩ := hf
                    refine gm_getR (C := RX3) (T := TX3) (N := 4) (j := 0) hx hb hts inT_3 hown hK hW k56 (by decide) rfl (by decide) rfl (hts _ kw_144) rfl dX9_batchFaults_180 hb57 ?_
                    refine lv_aload_n hx hb dX9_batchFaults_183 rfl (lv_at hl 1 rfl) ?_
                    obtain ⟨b58, hb58, hf⟩ := hf
                    refine gm_getR (C := RX8) (T := TX8) (N := 9) (j := 8) hx hb hts inT_8 hown hK hW k1 (by decide) rfl (by decide) rfl (hts _ kw_197) rfl dX9_batchFaults_184 hb58 ?_
                    refine lv_iload_n hx hb dX9_batchFaults_187 rfl (lv_at hl 3 rfl) ?_
                    obtain ⟨k59, hf⟩ := hf
                    obtain ⟨h60, hf⟩ := hf
                    refine gm_iald hx hb hK hW k59 h60 dX9_batchFaults_188 ?_
                    refine gm_ci (va_runS (As := [.ref b57, .int (mI M53 b58 x18.toNatClampNeg)]) (rest := [.long r54]) ⟨hx, hb, hml, hown, hts⟩ (m_X0_lastOf l D cy tq _ Y _ _ _ _) (va_cwS 2 hts (good_S kw_883 kw_792 kw_20 kw_793) rfl rfl rfl (by decide +kernel) ⟨Nat.le_of_ble_eq_true rfl, Nat.le_of_ble_eq_true rfl⟩) (gm_preS hK hW hC hS hA hf) rfl rfl hl.1 rfl (lv_room (Nat.le_of_ble_eq_true rfl)) dX9_batchFaults_189 ⟨Nat.le_of_ble_eq_true rfl, Nat.le_of_ble_eq_true rfl⟩) hW hS hA (fun r62 M61 H locs hW hS hf => ?_)
                    refine lv_i2l hx hb dX9_batchFaults_192 rfl ?_
                    refine lv_ladd hx hb dX9_batchFaults_193 ?_
                    refine lv_lconst (v := 1) hx hb dX9_batchFaults_194 (by decide) ?_
                    refine lv_ladd hx hb dX9_batchFaults_195 ?_
                    refine lv_topl (fun x63 ex63 => ?_)
                    replace hf := hf x63 ex63
                    refine lv_lstore (lv' := [(4, .long x63), (0, .ref v0), (1, .ref v1), (2, .int x45), (3, .int x18), (6, .int x6), (8, .int x16), (9, .int x21), (10, .int r40)]) hx hb dX9_batchFaults_196 hl (by decide) rfl (fun ls hl => ?_)
                    refine lv_aload_n hx hb dX9_batchFaults_198 rfl (lv_at hl 2 rfl) ?_
                    obtain ⟨b64, hb64, hf⟩ := hf
                    refine gm_getR (C := RX8) (T := TX8) (N := 9) (j := 8) hx hb hts inT_8 hown hK hW k1 (by decide) rfl (by decide) rfl (hts _ kw_197) rfl dX9_batchFaults_199 hb64 ?_
                    refine lv_iload_n hx hb dX9_batchFaults_202 rfl (lv_at hl 4 rfl) ?_
                    obtain ⟨k65, hf⟩ := hf
                    obtain ⟨h66, hf⟩ := hf
                    refine gm_iald hx hb hK hW k65 h66 dX9_batchFaults_203 ?_
                    refine lv_iload hx hb dX9_batchFaults_204 (lv_at hl 8 rfl) ?_
                    refine lv_iadd hx hb dX9_batchFaults_206 ?_
                    refine lv_topi (fun x67 ex67 => ?_)
                    replace hf := hf x67 ex67
                    refine lv_istore (lv' := [(7, .int x67), (4, .long x63), (0, .ref v0), (1, .ref v1), (2, .int x45), (3, .int x18), (6, .int x6), (8, .int x16), (9, .int x21), (10, .int r40)]) hx hb dX9_batchFaults_207 hl (by decide) rfl (fun ls hl => ?_)
                    obtain ⟨x68, ex68⟩ : ∃ y : Int32, y = x18 + 1 := ⟨_, rfl⟩
                    replace hf := hf x68 ex68
                    refine lv_iinc (v := x68) (lv' := [(3, .int x68), (7, .int x67), (4, .long x63), (0, .ref v0), (1, .ref v1), (2, .int x45), (6, .int x6), (8, .int x16), (9, .int x21), (10, .int r40)]) hx hb dX9_batchFaults_209 hl (k := 5) rfl (by rw [ex68]; rfl) (by decide) rfl (fun ls hl => ?_)
                    obtain ⟨x69, ex69⟩ : ∃ y : Int32, y = x21 + 1 := ⟨_, rfl⟩
                    replace hf := hf x69 ex69
                    refine lv_iinc (v := x69) (lv' := [(9, .int x69), (3, .int x68), (7, .int x67), (4, .long x63), (0, .ref v0), (1, .ref v1), (2, .int x45), (6, .int x6), (8, .int x16), (10, .int r40)]) hx hb dX9_batchFaults_212 hl (k := 8) rfl (by rw [ex69]; rfl) (by decide) rfl (fun ls hl => ?_)
                    refine lv_goto (tgt := 50) hx hb dX9_batchFaults_215 (by decide) ?_
                    exact ih50 _ _ _ _ _ _ _ _ _ (lv_sub hl [4, 5, 6, 1, 3, 7, 2, 8, 0] rfl) hW hS hf
                  have j157 : ∀ (M70 : Mm) (H : Heap) (locs : List Loc) (ls : Array Slot), lv_has ls 12 [(0, .ref v0), (1, .ref v1), (2, .int x17), (3, .int x18), (6, .int x6), (8, .int x16), (9, .int x21), (10, .int r40)] → Wd D cy A Y M70 H → va_S A s.heap H locs → f_X9_batchFaults_157 Y v0 v1 x17 x18 x21 (LOOP6 (L_X9_batchFaults_50 Y v0 v1 x6 (LOOP5 (L_X9_batchFaults_13 Y v0 v1 Kn) n13) x16) n50) r40 M70 → W p l e rm_X9_batchFaults s m args below meth c H locs 0 0 (MQ below (va_Qi Kn (BG D cy A Y) A) args s 0 0 A) (F0 m 157 ls []) := by
                    intro M70 H locs ls hl hW hS hf
                    unfold f_X9_batchFaults_157 at hf
                    obtain ⟨x71, ex71⟩ : ∃ y : Int32, y = x17 + 1 := ⟨_, rfl⟩
                    replace hf := hf x71 ex71
                    refine lv_iinc (v := x71) (lv' := [(2, .int x71), (0, .ref v0), (1, .ref v1), (3, .int x18), (6, .int x6), (8, .int x16), (9, .int x21), (10, .int r40)]) hx hb dX9_batchFaults_157 hl (k := 2) rfl (by rw [ex71]; rfl) (by decide) rfl (fun ls hl => ?_)
                    exact j160 _ _ _ _ _ (lv_sub hl [1, 2, 0, 3, 4, 5, 6, 7] rfl) hW hS hf
                  refine lv_if_eq (tgt := 157) hx hb dX9_batchFaults_125 (by decide) (fun c72 => ?_) (fun c72 => ?_)
                  · replace hf := hf.1 c72
                    exact j157 _ _ _ _ (lv_sub hl [1, 2, 3, 4, 6, 8, 9, 10] rfl) hW hS hf
                  · replace hf := hf.2 c72
                    refine lv_aload_n hx hb dX9_batchFaults_128 rfl (lv_at hl 1 rfl) ?_
                    obtain ⟨b73, hb73, hf⟩ := hf
                    refine gm_getR (C := RX9) (T := TX9) (N := 7) (j := 0) hx hb hts inT_9 hown hK hW k32 (by decide) rfl (by decide) rfl (hts _ kw_213) rfl dX9_batchFaults_129 hb73 ?_
                    obtain ⟨k74, hf⟩ := hf
                    obtain ⟨b75, hb75, hf⟩ := hf
                    refine gm_getR (C := RX3) (T := TX3) (N := 4) (j := 0) hx hb hts inT_3 hown hK hW k74 (by decide) rfl (by decide) rfl (hts _ kw_144) rfl dX9_batchFaults_132 hb75 ?_
                    refine lv_iload hx hb dX9_batchFaults_135 (lv_at hl 7 rfl) ?_
                    refine lv_iload hx hb dX9_batchFaults_137 (lv_at hl 10 rfl) ?_
                    refine gm_ci (va_runS (As := [.ref b75, .int x20, .int r40]) (rest := []) ⟨hx, hb, hml, hown, hts⟩ (m_X0_hasTrueChecksum l D cy tq _ Y _ _ _ _ _) (va_cwS 3 hts (good_S kw_1303 kw_813 kw_20 kw_814) rfl rfl rfl (by decide +kernel) ⟨Nat.le_of_ble_eq_true rfl, Nat.le_of_ble_eq_true rfl⟩) (gm_preS hK hW hC hS hA hf) rfl rfl hl.1 rfl (lv_room (Nat.le_of_ble_eq_true rfl)) dX9_batchFaults_139 ⟨Nat.le_of_ble_eq_true rfl, Nat.le_of_ble_eq_true rfl⟩) hW hS hA (fun r77 M76 H locs hW hS hf => ?_)
                    refine lv_if_eq (tgt := 157) hx hb dX9_batchFaults_142 (by decide) (fun c78 => ?_) (fun c78 => ?_)
                    · replace hf := hf.1 c78
                      exact j157 _ _ _ _ (lv_sub hl [1, 2, 3, 4, 6, 8, 9, 10] rfl) hW hS hf
                    · replace hf := hf.2 c78
                      refine lv_aload_n hx hb dX9_batchFaults_145 rfl (lv_at hl 1 rfl) ?_
                      refine lv_aload_n hx hb dX9_batchFaults_146 rfl (lv_at hl 2 rfl) ?_
                      refine lv_iload hx hb dX9_batchFaults_147 (lv_at hl 7 rfl) ?_
                      refine lv_lload hx hb dX9_batchFaults_149 (lv_at hl 5 rfl) ?_
                      refine gm_ci (va_runV (As := [.ref v1, .int x20, .long x19]) (rest := []) ⟨hx, hb, hml, hown, hts⟩ (m_X9_isInOrder l D cy tq _ Y _ _ _ _ _ _) (cwV 3 hts (good_V kw_1304 kw_1305 kw_1822 kw_8 kw_1306) rfl rfl rfl (by decide +kernel) ⟨Nat.le_of_ble_eq_true rfl, Nat.le_of_ble_eq_true rfl⟩) (gm_preV hK hW hC hS hA k32 (by decide) (q := (RX9, TX9, 7)) rfl rfl hf) rfl rfl hl.1 rfl (lv_room (Nat.le_of_ble_eq_true rfl)) dX9_batchFaults_151 ⟨Nat.le_of_ble_eq_true rfl, Nat.le_of_ble_eq_true rfl⟩) hW hS hA (fun r80 M79 H locs hW hS hf => ?_)
                      refine lv_if_ne (tgt := 160) hx hb dX9_batchFaults_154 (by decide) (fun c81 => ?_) (fun c81 => ?_)
                      · replace hf := hf.1 c81
                        exact j160 _ _ _ _ _ (lv_sub hl [1, 2, 3, 4, 6, 8, 9, 10] rfl) hW hS hf
                      · replace hf := hf.2 c81
                        exact j157 _ _ _ _ (lv_sub hl [1, 2, 3, 4, 6, 8, 9, 10] rfl) hW hS hf
                have j120 : ∀ (H : Heap) (locs : List Loc) (ls : Array Slot), lv_has ls 12 [(0, .ref v0), (1, .ref v1), (2, .int x17), (3, .int x18), (4, .long x19), (6, .int x6), (7, .int x20), (8, .int x16), (9, .int x21), (10, .int r40)] → Wd D cy A Y M39 H → va_S A s.heap H locs → f_X9_batchFaults_120 Y v0 v1 x17 x18 x19 x20 x21 (LOOP6 (L_X9_batchFaults_50 Y v0 v1 x6 (LOOP5 (L_X9_batchFaults_13 Y v0 v1 Kn) n13) x16) n50) M39 r40  → W p l e rm_X9_batchFaults s m args below meth c H locs 0 0 (MQ below (va_Qi Kn (BG D cy A Y) A) args s 0 0 A) (F0 m 120 ls []) := by
                  intro  H locs ls hl hW hS hf
                  unfold f_X9_batchFaults_120 at hf
                  refine lv_iconst (v := 0) hx hb dX9_batchFaults_120 (by decide +kernel) ?_
                  exact j121 _ _ _ _ (lv_sub hl [0, 1, 2, 3, 4, 5, 6, 7, 8, 9] rfl) hW hS hf
                refine lv_icmp_ne (tgt := 120) hx hb dX9_batchFaults_96 (by decide) (fun c82 => ?_) (fun c82 => ?_)
                · replace hf := hf.1 c82
                  exact j120  _ _ _ (lv_sub hl [1, 2, 3, 4, 5, 6, 7, 8, 9, 0] rfl) hW hS hf
                · replace hf := hf.2 c82
                  refine lv_iload hx hb dX9_batchFaults_99 (lv_at hl 0 rfl) ?_
                  refine lv_bipush (v := 61) hx hb dX9_batchFaults_101 (by decide +kernel) ?_
                  refine lv_icmp_lt (tgt := 120) hx hb dX9_batchFaults_103 (by decide) (fun c83 => ?_) (fun c83 => ?_)
                  · replace hf := hf.1 c83
                    exact j120  _ _ _ (lv_sub hl [1, 2, 3, 4, 5, 6, 7, 8, 9, 0] rfl) hW hS hf
                  · replace hf := hf.2 c83
                    refine lv_iload hx hb dX9_batchFaults_106 (lv_at hl 0 rfl) ?_
                    refine lv_iload hx hb dX9_batchFaults_108 (lv_at hl 8 rfl) ?_
                    refine lv_iload hx hb dX9_batchFaults_110 (lv_at hl 7 rfl) ?_
                    refine lv_isub hx hb dX9_batchFaults_112 ?_
                    refine lv_icmp_gt (tgt := 120) hx hb dX9_batchFaults_113 (by decide) (fun c84 => ?_) (fun c84 => ?_)
                    · replace hf := hf.1 c84
                      exact j120  _ _ _ (lv_sub hl [1, 2, 3, 4, 5, 6, 7, 8, 9, 0] rfl) hW hS hf
                    · replace hf := hf.2 c84
                      refine lv_iconst (v := 1) hx hb dX9_batchFaults_116 (by decide +kernel) ?_
                      refine lv_goto (tgt := 121) hx hb dX9_batchFaults_117 (by decide) ?_
                      exact j121 _ _ _ _ (lv_sub hl [1, 2, 3, 4, 5, 6, 7, 8, 9, 0] rfl) hW hS hf
        exact lp50 n50 _ _ _ _ _ _ _ _ _ (lv_sub hl [3, 4, 5, 6, 7, 8, 2, 1, 0] rfl) hW hS hf
  exact lp13 n13 _ _ _ _ _ _ _ _ (lv_sub hl [4, 5, 3, 2, 1, 0] rfl) hW hS hf

abbrev rm_X9_countFaults : Room := { frames := 7, cells := 0, slots := 0, locals := 206 }
def f_X9_countFaults_87 (Y : Ly) (x11 : Int32) (again53 : Int32 → Int32 → Prop) (x19 : Int32) : Prop :=
  ∀ x20 : Int32, x20 = x11 + 1 → (again53 x19 x20)
def f_X9_countFaults_81 (Y : Ly) (M9 : Mm) (x10 : Int32) (x11 : Int32) (again53 : Int32 → Int32 → Prop) (b15 : Nat) (y18 : Int32) : Prop :=
  ((mI M9 b15 x11.toNatClampNeg) ≤ y18 → (f_X9_countFaults_87 Y x11 again53 x10)) ∧ (¬ ((mI M9 b15 x11.toNatClampNeg) ≤ y18) → (∀ x22 : Int32, x22 = x10 + 1 → (f_X9_countFaults_87 Y x11 again53 x22)))
def L_X9_countFaults_53 (Y : Ly) (v0 : Nat) (Kn : Int32 → Mm → Prop) (M9 : Mm) (x10 : Int32) (x11 : Int32) (again53 : Int32 → Int32 → Prop) : Prop :=
  ∃ b12 : Nat, mR M9 v0 4 = some b12 ∧ (yK Y b12 = 100 ∧ (((nI (yN Y b12)) ≤ x11 → (Kn x10 M9)) ∧ (¬ ((nI (yN Y b12)) ≤ x11) → (∃ b15 : Nat, mR M9 v0 4 = some b15 ∧ (yK Y b15 = 100 ∧ (vp_in x11 (yN Y b15) ∧ (((mI M9 v0 3) ≤ x11 → (f_X9_countFaults_81 Y M9 x10 x11 again53 b15 1)) ∧ (¬ ((mI M9 v0 3) ≤ x11) → (f_X9_countFaults_81 Y M9 x10 x11 again53 b15 0)))))))))
def L_X9_countFaults_13 (Y : Ly) (v0 : Nat) (Kn : Int32 → Mm → Prop) (b2 : Nat) (x4 : Int32) (x5 : Int32) (x6 : Int32) (M7 : Mm) (again13 : Int32 → Int32 → Mm → Prop) : Prop :=
  (x4 ≤ x6 → (f_X9_countUses Y v0 M7 (fun M9 => (∃ n, LOOP2 (L_X9_countFaults_53 Y v0 Kn M9) n x5 0)))) ∧ (¬ (x4 ≤ x6) → (vp_in x6 (yN Y b2) ∧ (∃ b25 : Nat, mR M7 b2 x6.toNatClampNeg = some b25 ∧ (f_X9_headFaults Y v0 b25 M7 (fun r27 M26 => (f_X9_batchFaults Y v0 b25 M26 (fun r29 M28 => (∀ x30 : Int32, x30 = x5 + (r27 + r29) → (∀ x31 : Int32, x31 = x6 + 1 → (again13 x30 x31 M28))))))))))
def f_X9_countFaults (Y : Ly) (v0 : Nat) (M : Mm) (Kn : Int32 → Mm → Prop) : Prop :=
  yK Y v0 = 9 ∧ (∃ b2 : Nat, mR M v0 1 = some b2 ∧ (yK Y b2 = 104 ∧ (∀ x4 : Int32, x4 = nI (yN Y b2) → (∃ n, LOOP3 (L_X9_countFaults_13 Y v0 Kn b2 x4) n 0 0 M))))
set_option maxHeartbeats 4000000 in
set_option maxRecDepth 100000 in
theorem m_X9_countFaults (l : Launch) (D : va_G) (cy : Cy) (tq sz : Nat) (Y : Ly) (v0 : Nat) (M : Mm) (Kn : Int32 → Mm → Prop) : Met l yX9_countFaults (Cond.code yX9_countFaults cX9_countFaults 6 (some .int) :: TT) rm_X9_countFaults (PcG D cy tq [.ref v0] sz Y M (f_X9_countFaults Y v0 M Kn)) (va_Qi Kn (BG D cy (Am Y sz) Y) (Am Y sz)) 0 0 (Am Y sz) := by
  refine Met.ofW (cc := cX9_countFaults) (maxL := 6) (ret := (some .int)) (by decide) rfl ?_
  intro p e s m args below meth c s₁ B hml hv
  obtain ⟨hargs, hsz, hW, hK, hC, hf⟩ := hv
  subst hsz
  have hx := B.exec
  have hb := B.bytes
  have hr := B.returns
  have hts : ∀ w ∈ TT, w.before args s = true := fun w h => atoms_spec (ws := Cond.code yX9_countFaults cX9_countFaults 6 (some .int) :: TT) B.pre w (List.mem_cons_of_mem _ h)
  have hown : s.vm.findClass RX9 = some m.cls := findClass_of_methodNamed B.named
  have hlocks := B.notSynchronized
  replace hW := Wd_self (sz := s.heap.size) hW
  generalize hAe : Am Y s.heap.size = A at hW hC ⊢
  have hA : ∀ q : Nat, s.heap.size ≤ q → A q := fun q h => by rw [← hAe]; exact Or.inr h
  clear hAe
  have hS : va_S A s.heap s.heap [] := va_S.rf
  obtain ⟨ls, hE, hl⟩ := gm_entry m [.ref v0] (n := 6) hargs (Nat.le_of_ble_eq_true rfl)
  rw [hE]
  have hl : lv_has ls 6 [(0, .ref v0)] := hl
  show W p l e rm_X9_countFaults s m args below meth c s.heap [] 0 0 (MQ below (va_Qi Kn (BG D cy A Y) A) args s 0 0 A) (F0 m 0 ls [])
  unfold f_X9_countFaults at hf
  refine lv_iconst (v := 0) hx hb dX9_countFaults_0 (by decide +kernel) ?_
  refine lv_istore_n (lv' := [(1, .int 0), (0, .ref v0)]) hx hb dX9_countFaults_1 rfl hl (by decide) rfl (fun ls hl => ?_)
  refine lv_aload_n hx hb dX9_countFaults_2 rfl (lv_at hl 1 rfl) ?_
  obtain ⟨k1, hf⟩ := hf
  obtain ⟨b2, hb2, hf⟩ := hf
  refine gm_getR (C := RX9) (T := TX9) (N := 7) (j := 1) hx hb hts inT_9 hown hK hW k1 (by decide) rfl (by decide) rfl (hts _ kw_216) rfl dX9_countFaults_3 hb2 ?_
  refine lv_astore_n (lv' := [(2, .ref b2), (1, .int 0), (0, .ref v0)]) hx hb dX9_countFaults_6 rfl hl (by decide) rfl (fun ls hl => ?_)
  refine lv_aload_n hx hb dX9_countFaults_7 rfl (lv_at hl 0 rfl) ?_
  obtain ⟨k3, hf⟩ := hf
  refine gm_alen hx hb hK hW (by rw [k3]; decide) dX9_countFaults_8 ?_
  refine lv_topi (fun x4 ex4 => ?_)
  replace hf := hf x4 ex4
  refine lv_istore_n (lv' := [(3, .int x4), (2, .ref b2), (1, .int 0), (0, .ref v0)]) hx hb dX9_countFaults_9 rfl hl (by decide) rfl (fun ls hl => ?_)
  refine lv_iconst (v := 0) hx hb dX9_countFaults_10 (by decide +kernel) ?_
  refine lv_istore (lv' := [(4, .int 0), (3, .int x4), (2, .ref b2), (1, .int 0), (0, .ref v0)]) hx hb dX9_countFaults_11 hl (by decide) rfl (fun ls hl => ?_)
  obtain ⟨n13, hf⟩ := hf
  have lp13 : ∀ (n13 : Nat) (x5 : Int32) (x6 : Int32) (M7 : Mm) (H : Heap) (locs : List Loc) (ls : Array Slot), lv_has ls 6 [(0, .ref v0), (1, .int x5), (2, .ref b2), (3, .int x4), (4, .int x6)] → Wd D cy A Y M7 H → va_S A s.heap H locs → LOOP3 (L_X9_countFaults_13 Y v0 Kn b2 x4) n13 x5 x6 M7 → W p l e rm_X9_countFaults s m args below meth c H locs 0 0 (MQ below (va_Qi Kn (BG D cy A Y) A) args s 0 0 A) (F0 m 13 ls []) := by
    intro n13
    induction n13 with
    | zero => intro x5 x6 M7 H locs ls hl hW hS hf; exact hf.elim
    | succ n13 ih13 =>
      intro x5 x6 M7 H locs ls hl hW hS hf
      replace hf : L_X9_countFaults_13 Y v0 Kn b2 x4 x5 x6 M7 (LOOP3 (L_X9_countFaults_13 Y v0 Kn b2 x4) n13) := hf
      unfold L_X9_countFaults_13 at hf
      refine lv_iload hx hb dX9_countFaults_13 (lv_at hl 4 rfl) ?_
      refine lv_iload_n hx hb dX9_countFaults_15 rfl (lv_at hl 3 rfl) ?_
      refine lv_icmp_ge (tgt := 47) hx hb dX9_countFaults_16 (by decide) (fun c8 => ?_) (fun c8 => ?_)
      · replace hf := hf.1 c8
        refine lv_aload_n hx hb dX9_countFaults_47 rfl (lv_at hl 0 rfl) ?_
        refine gm_cv (va_runV (As := []) (rest := []) ⟨hx, hb, hml, hown, hts⟩ (m_X9_countUses l D cy tq _ Y _ _ _) (cwV 0 hts (good_V kw_899 kw_900 kw_901 kw_8 kw_902) rfl rfl rfl (by decide +kernel) ⟨Nat.le_of_ble_eq_true rfl, Nat.le_of_ble_eq_true rfl⟩) (gm_preV hK hW hC hS hA k1 (by decide) (q := (RX9, TX9, 7)) rfl rfl hf) rfl rfl hl.1 rfl (lv_room (Nat.le_of_ble_eq_true rfl)) dX9_countFaults_48 ⟨Nat.le_of_ble_eq_true rfl, Nat.le_of_ble_eq_true rfl⟩) hW hS hA (fun M9 H locs hW hS hf => ?_)
        refine lv_iconst (v := 0) hx hb dX9_countFaults_51 (by decide +kernel) ?_
        refine lv_istore_n (lv' := [(2, .int 0), (0, .ref v0), (1, .int x5), (3, .int x4), (4, .int x6)]) hx hb dX9_countFaults_52 rfl hl (by decide) rfl (fun ls hl => ?_)
        obtain ⟨n53, hf⟩ := hf
        have lp53 : ∀ (n53 : Nat) (x10 : Int32) (x11 : Int32) (H : Heap) (locs : List Loc) (ls : Array Slot), lv_has ls 6 [(0, .ref v0), (1, .int x10), (2, .int x11)] → Wd D cy A Y M9 H → va_S A s.heap H locs → LOOP2 (L_X9_countFaults_53 Y v0 Kn M9) n53 x10 x11 → W p l e rm_X9_countFaults s m args below meth c H locs 0 0 (MQ below (va_Qi Kn (BG D cy A Y) A) args s 0 0 A) (F0 m 53 ls []) := by
          intro n53
          induction n53 with
          | zero => intro x10 x11 H locs ls hl hW hS hf; exact hf.elim
          | succ n53 ih53 =>
            intro x10 x11 H locs ls hl hW hS hf
            replace hf : L_X9_countFaults_53 Y v0 Kn M9 x10 x11 (LOOP2 (L_X9_countFaults_53 Y v0 Kn M9) n53) := hf
            unfold L_X9_countFaults_53 at hf
            refine lv_iload_n hx hb dX9_countFaults_53 rfl (lv_at hl 2 rfl) ?_
            refine lv_aload_n hx hb dX9_countFaults_54 rfl (lv_at hl 0 rfl) ?_
            obtain ⟨b12, hb12, hf⟩ := hf
            refine gm_getR (C := RX9) (T := TX9) (N := 7) (j := 4) hx hb hts inT_9 hown hK hW k1 (by decide) rfl (by decide) rfl (hts _ kw_222) rfl dX9_countFaults_55 hb12 ?_
            obtain ⟨k13, hf⟩ := hf
            refine gm_alen hx hb hK hW (by rw [k13]; decide) dX9_countFaults_58 ?_
            refine lv_icmp_ge (tgt := 93) hx hb dX9_countFaults_59 (by decide) (fun c14 => ?_) (fun c14 => ?_)
            · replace hf := hf.1 c14
              refine lv_iload_n hx hb dX9_countFaults_93 rfl (lv_at hl 1 rfl) ?_
              exact gm_iret hx hb hr hlocks hW hS hf dX9_countFaults_94
            · replace hf := hf.2 c14
              refine lv_aload_n hx hb dX9_countFaults_62 rfl (lv_at hl 0 rfl) ?_
              obtain ⟨b15, hb15, hf⟩ := hf
              refine gm_getR (C := RX9) (T := TX9) (N := 7) (j := 4) hx hb hts inT_9 hown hK hW k1 (by decide) rfl (by decide) rfl (hts _ kw_222) rfl dX9_countFaults_63 hb15 ?_
              refine lv_iload_n hx hb dX9_countFaults_66 rfl (lv_at hl 2 rfl) ?_
              obtain ⟨k16, hf⟩ := hf
              obtain ⟨h17, hf⟩ := hf
              refine gm_bald hx hb hK hW k16 h17 dX9_countFaults_67 ?_
              refine lv_iload_n hx hb dX9_countFaults_68 rfl (lv_at hl 2 rfl) ?_
              refine lv_aload_n hx hb dX9_countFaults_69 rfl (lv_at hl 0 rfl) ?_
              refine gm_getI (C := RX9) (T := TX9) (N := 7) (j := 3) hx hb hts inT_9 hown hK hW k1 (by decide) rfl (by decide) rfl (hts _ kw_221) rfl dX9_countFaults_70 ?_
              have j81 : ∀ (y18 : Int32) (H : Heap) (locs : List Loc) (ls : Array Slot), lv_has ls 6 [(0, .ref v0), (1, .int x10), (2, .int x11)] → Wd D cy A Y M9 H → va_S A s.heap H locs → f_X9_countFaults_81 Y M9 x10 x11 (LOOP2 (L_X9_countFaults_53 Y v0 Kn M9) n53) b15 y18 → W p l e rm_X9_countFaults s m args below meth c H locs 0 0 (MQ below (va_Qi Kn (BG D cy A Y) A) args s 0 0 A) (F0 m 81 ls [.int y18, .int (mI M9 b15 x11.toNatClampNeg)]) := by
                intro y18 H locs ls hl hW hS hf
                unfold f_X9_countFaults_81 at hf
                have j87 : ∀ (x19 : Int32) (H : Heap) (locs : List Loc) (ls : Array Slot), lv_has ls 6 [(0, .ref v0), (1, .int x19), (2, .int x11)] → Wd D cy A Y M9 H → va_S A s.heap H locs → f_X9_countFaults_87 Y x11 (LOOP2 (L_X9_countFaults_53 Y v0 Kn M9) n53) x19 → W p l e rm_X9_countFaults s m args below meth c H locs 0 0 (MQ below (va_Qi Kn (BG D cy A Y) A) args s 0 0 A) (F0 m 87 ls []) := by
                  intro x19 H locs ls hl hW hS hf
                  unfold f_X9_countFaults_87 at hf
                  obtain ⟨x20, ex20⟩ : ∃ y : Int32, y = x11 + 1 := ⟨_, rfl⟩
                  replace hf := hf x20 ex20
                  refine lv_iinc (v := x20) (lv' := [(2, .int x20), (0, .ref v0), (1, .int x19)]) hx hb dX9_countFaults_87 hl (k := 2) rfl (by rw [ex20]; rfl) (by decide) rfl (fun ls hl => ?_)
                  refine lv_goto (tgt := 53) hx hb dX9_countFaults_90 (by decide) ?_
                  exact ih53 _ _ _ _ _ (lv_sub hl [1, 2, 0] rfl) hW hS hf
                refine lv_icmp_le (tgt := 87) hx hb dX9_countFaults_81 (by decide) (fun c21 => ?_) (fun c21 => ?_)
                · replace hf := hf.1 c21
                  exact j87 _ _ _ _ (lv_sub hl [0, 1, 2] rfl) hW hS hf
                · replace hf := hf.2 c21
                  obtain ⟨x22, ex22⟩ : ∃ y : Int32, y = x10 + 1 := ⟨_, rfl⟩
                  replace hf := hf x22 ex22
                  refine lv_iinc (v := x22) (lv' := [(1, .int x22), (0, .ref v0), (2, .int x11)]) hx hb dX9_countFaults_84 hl (k := 1) rfl (by rw [ex22]; rfl) (by decide) rfl (fun ls hl => ?_)
                  exact j87 _ _ _ _ (lv_sub hl [1, 0, 2] rfl) hW hS hf
              refine lv_icmp_ge (tgt := 80) hx hb dX9_countFaults_73 (by decide) (fun c23 => ?_) (fun c23 => ?_)
              · replace hf := hf.1 c23
                refine lv_iconst (v := 1) hx hb dX9_countFaults_80 (by decide +kernel) ?_
                exact j81 _ _ _ _ (lv_sub hl [0, 1, 2] rfl) hW hS hf
              · replace hf := hf.2 c23
                refine lv_iconst (v := 0) hx hb dX9_countFaults_76 (by decide +kernel) ?_
                refine lv_goto (tgt := 81) hx hb dX9_countFaults_77 (by decide) ?_
                exact j81 _ _ _ _ (lv_sub hl [0, 1, 2] rfl) hW hS hf
        exact lp53 n53 _ _ _ _ _ (lv_sub hl [1, 2, 0] rfl) hW hS hf
      · replace hf := hf.2 c8
        refine lv_aload_n hx hb dX9_countFaults_19 rfl (lv_at hl 2 rfl) ?_
        refine lv_iload hx hb dX9_countFaults_20 (lv_at hl 4 rfl) ?_
        obtain ⟨h24, hf⟩ := hf
        obtain ⟨b25, hb25, hf⟩ := hf
        refine gm_aald hx hb hK hW k3 h24 hb25 dX9_countFaults_22 ?_
        refine lv_astore (lv' := [(5, .ref b25), (0, .ref v0), (1, .int x5), (2, .ref b2), (3, .int x4), (4, .int x6)]) hx hb dX9_countFaults_23 hl (by decide) rfl (fun ls hl => ?_)
        refine lv_iload_n hx hb dX9_countFaults_25 rfl (lv_at hl 2 rfl) ?_
        refine lv_aload_n hx hb dX9_countFaults_26 rfl (lv_at hl 1 rfl) ?_
        refine lv_aload hx hb dX9_countFaults_27 (lv_at hl 0 rfl) ?_
        refine gm_ci (va_runV (As := [.ref b25]) (rest := [.int x5]) ⟨hx, hb, hml, hown, hts⟩ (m_X9_headFaults l D cy tq _ Y _ _ _ _) (cwV 1 hts (good_V kw_1297 kw_1298 kw_1820 kw_8 kw_1299) rfl rfl rfl (by decide +kernel) ⟨Nat.le_of_ble_eq_true rfl, Nat.le_of_ble_eq_true rfl⟩) (gm_preV hK hW hC hS hA k1 (by decide) (q := (RX9, TX9, 7)) rfl rfl hf) rfl rfl hl.1 rfl (lv_room (Nat.le_of_ble_eq_true rfl)) dX9_countFaults_29 ⟨Nat.le_of_ble_eq_true rfl, Nat.le_of_ble_eq_true rfl⟩) hW hS hA (fun r27 M26 H locs hW hS hf => ?_)
        refine lv_aload_n hx hb dX9_countFaults_32 rfl (lv_at hl 1 rfl) ?_
        refine lv_aload hx hb dX9_countFaults_33 (lv_at hl 0 rfl) ?_
        refine gm_ci (va_runV (As := [.ref b25]) (rest := [.int r27, .int x5]) ⟨hx, hb, hml, hown, hts⟩ (m_X9_batchFaults l D cy tq _ Y _ _ _ _) (cwV 1 hts (good_V kw_1300 kw_1301 kw_1821 kw_8 kw_1302) rfl rfl rfl (by decide +kernel) ⟨Nat.le_of_ble_eq_true rfl, Nat.le_of_ble_eq_true rfl⟩) (gm_preV hK hW hC hS hA k1 (by decide) (q := (RX9, TX9, 7)) rfl rfl hf) rfl rfl hl.1 rfl (lv_room (Nat.le_of_ble_eq_true rfl)) dX9_countFaults_35 ⟨Nat.le_of_ble_eq_true rfl, Nat.le_of_ble_eq_true rfl⟩) hW hS hA (fun r29 M28 H locs hW hS hf => ?_)
        refine lv_iadd hx hb dX9_countFaults_38 ?_
        refine lv_iadd hx hb dX9_countFaults_39 ?_
        refine lv_topi (fun x30 ex30 => ?_)
        replace hf := hf x30 ex30
        refine lv_istore_n (lv' := [(1, .int x30), (5, .ref b25), (0, .ref v0), (2, .ref b2), (3, .int x4), (4, .int x6)]) hx hb dX9_countFaults_40 rfl hl (by decide) rfl (fun ls hl => ?_)
        obtain ⟨x31, ex31⟩ : ∃ y : Int32, y = x6 + 1 := ⟨_, rfl⟩
        replace hf := hf x31 ex31
        refine lv_iinc (v := x31) (lv' := [(4, .int x31), (1, .int x30), (5, .ref b25), (0, .ref v0), (2, .ref b2), (3, .int x4)]) hx hb dX9_countFaults_41 hl (k := 5) rfl (by rw [ex31]; rfl) (by decide) rfl (fun ls hl => ?_)
        refine lv_goto (tgt := 13) hx hb dX9_countFaults_44 (by decide) ?_
        exact ih13 _ _ _ _ _ _ (lv_sub hl [3, 1, 4, 5, 0] rfl) hW hS hf
  exact lp13 n13 _ _ _ _ _ _ (lv_sub hl [4, 3, 2, 1, 0] rfl) hW hS hf
