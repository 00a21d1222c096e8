/-! by gen.py: what the methods do, and that they do it -/
abbrev rm_X12_known : Room := { frames := 5, cells := 0, slots := 0, locals := 152 }
def f_X12_known_102 (Y : Ly) (Kn : Int64 → Mm → Prop) (M9 : Mm) (y11 : Int64) : Prop :=
  Kn y11 M9
def f_X12_known_88 (Y : Ly) (v4 : Int32) (Kn : Int64 → Mm → Prop) (x6 : Int32) (M9 : Mm) : Prop :=
  (¬ v4 = 0 → (f_X12_known_102 Y Kn M9 (-1))) ∧ (v4 = 0 → (f_X12_known_102 Y Kn M9 x6.toInt64))
def f_X12_known_150 (Y : Ly) (Kn : Int64 → Mm → Prop) (y15 : Int64) (M16 : Mm) : Prop :=
  Kn y15 M16
def f_X12_known_69 (Y : Ly) (v0 : Nat) (v1 : Int32) (v2 : Int64) (v4 : Int32) (Kn : Int64 → Mm → Prop) (x6 : Int32) (M8 : Mm) : Prop :=
  f_X12_knownOne Y v0 v1 v2 0 M8 (fun r10 M9 => ((v4 = 0 → (f_X12_known_88 Y v4 Kn x6 M9)) ∧ (¬ (v4 = 0) → ((0 ≤ r10 → ((¬ v4 = 1 → ((¬ v4 = 2 → (f_X12_base Y v0 r10 M9 (fun r20 M19 => (f_X12_known_150 Y Kn r20 M19)))) ∧ (v4 = 2 → (f_X12_sequenceOf Y v0 r10 M9 (fun r22 M21 => (f_X12_last Y v0 r10 M21 (fun r24 M23 => (f_X12_after Y r22 r24 M23 (fun r26 M25 => (f_X12_known_150 Y Kn r26.toInt64 M25)))))))))) ∧ (v4 = 1 → (f_X12_epochOf Y v0 r10 M9 (fun r28 M27 => (f_X12_known_150 Y Kn r28.toInt64 M27)))))) ∧ (¬ (0 ≤ r10) → (f_X12_known_88 Y v4 Kn x6 M9))))))
def L_X12_known_46 (Y : Ly) (v0 : Nat) (v1 : Int32) (v2 : Int64) (v4 : Int32) (Kn : Int64 → Mm → Prop) (x6 : Int32) (M7 : Mm) (again46 : Int32 → Mm → Prop) : Prop :=
  (5 ≤ x6 → (f_X12_known_69 Y v0 v1 v2 v4 Kn x6 M7)) ∧ (¬ (5 ≤ x6) → (f_X12_knownOne Y v0 v1 v2 x6 M7 (fun r31 M30 => ((r31 < 0 → (f_X12_known_69 Y v0 v1 v2 v4 Kn x6 M30)) ∧ (¬ (r31 < 0) → (∀ x33 : Int32, x33 = x6 + 1 → (again46 x33 M30)))))))
def f_X12_known_35 (Y : Ly) (v0 : Nat) (v1 : Int32) (v2 : Int64) (v4 : Int32) (M : Mm) (Kn : Int64 → Mm → Prop) (y1 : Int32) : Prop :=
  yK Y v0 = 12 ∧ (f_X12_goes Y v0 y1 M (fun r3 M2 => ((¬ r3 = 0 → (∃ n, LOOP2 (L_X12_known_46 Y v0 v1 v2 v4 Kn) n 0 M2)) ∧ (r3 = 0 → (Kn 0 M2)))))
def f_X12_known_34 (Y : Ly) (v0 : Nat) (v1 : Int32) (v2 : Int64) (v4 : Int32) (M : Mm) (Kn : Int64 → Mm → Prop) : Prop :=
  f_X12_known_35 Y v0 v1 v2 v4 M Kn 0
def f_X12_known (Y : Ly) (v0 : Nat) (v1 : Int32) (v2 : Int64) (v4 : Int32) (M : Mm) (Kn : Int64 → Mm → Prop) : Prop :=
  (v1 < 0 → (f_X12_known_34 Y v0 v1 v2 v4 M Kn)) ∧ (¬ (v1 < 0) → (yK Y v0 = 12 ∧ (((mI M v0 1) < v1 → (f_X12_known_34 Y v0 v1 v2 v4 M Kn)) ∧ (¬ ((mI M v0 1) < v1) → ((v2 < 0 → (f_X12_known_34 Y v0 v1 v2 v4 M Kn)) ∧ (¬ (v2 < 0) → ((v4 < 0 → (f_X12_known_34 Y v0 v1 v2 v4 M Kn)) ∧ (¬ (v4 < 0) → ((3 < v4 → (f_X12_known_34 Y v0 v1 v2 v4 M Kn)) ∧ (¬ (3 < v4) → (f_X12_known_35 Y v0 v1 v2 v4 M Kn 1)))))))))))
set_option maxHeartbeats 4000000 in
set_option maxRecDepth 100000 in
theorem m_X12_known (l : Launch) (D : va_G) (cy : Cy) (tq sz : Nat) (Y : Ly) (v0 : Nat) (v1 : Int32) (v2 : Int64) (v4 : Int32) (M : Mm) (Kn : Int64 → Mm → Prop) : Met l yX12_known (Cond.code yX12_known cX12_known 7 (some .long) :: TT) rm_X12_known (PcG D cy tq [.ref v0, .int v1, .long v2, .int v4] sz Y M (f_X12_known Y v0 v1 v2 v4 M Kn)) (va_Ql Kn (BG D cy (Am Y sz) Y) (Am Y sz)) 0 0 (Am Y sz) := by
  refine Met.ofW (cc := cX12_known) (maxL := 7) (ret := (some .long)) (by decide) rfl ?_
  intro p e s m args below meth c s₁ B hml hv
  obtain ⟨hargs, hsz, hW, hK, hC, hf⟩ := hv
  subst hsz
  have hx := B.exec
  have hb := B.bytes
  have hr := B.returns
  have hts : ∀ w ∈ TT, w.before args s = true := fun w h => atoms_spec (ws := Cond.code yX12_known cX12_known 7 (some .long) :: TT) B.pre w (List.mem_cons_of_mem _ h)
  have hown : s.vm.findClass RX12 = some m.cls := findClass_of_methodNamed B.named
  have hlocks := B.notSynchronized
  replace hW := Wd_self (sz := s.heap.size) hW
  generalize hAe : Am Y s.heap.size = A at hW hC ⊢
  have hA : ∀ q : Nat, s.heap.size ≤ q → A q := fun q h => by rw [← hAe]; exact Or.inr h
  clear hAe
  have hS : va_S A s.heap s.heap [] := va_S.rf
  obtain ⟨ls, hE, hl⟩ := gm_entry m [.ref v0, .int v1, .long v2, .int v4] (n := 7) hargs (Nat.le_of_ble_eq_true rfl)
  rw [hE]
  have hl : lv_has ls 7 [(0, .ref v0), (1, .int v1), (2, .long v2), (4, .int v4)] := hl
  show W p l e rm_X12_known s m args below meth c s.heap [] 0 0 (MQ below (va_Ql Kn (BG D cy A Y) A) args s 0 0 A) (F0 m 0 ls [])
  unfold f_X12_known at hf
  refine lv_aload_n hx hb dX12_known_0 rfl (lv_at hl 0 rfl) ?_
  refine lv_iload_n hx hb dX12_known_1 rfl (lv_at hl 1 rfl) ?_
  have j35 : ∀ (y1 : Int32) (H : Heap) (locs : List Loc) (ls : Array Slot), lv_has ls 7 [(0, .ref v0), (1, .int v1), (2, .long v2), (4, .int v4)] → Wd D cy A Y M H → va_S A s.heap H locs → f_X12_known_35 Y v0 v1 v2 v4 M Kn y1 → W p l e rm_X12_known s m args below meth c H locs 0 0 (MQ below (va_Ql Kn (BG D cy A Y) A) args s 0 0 A) (F0 m 35 ls [.int y1, .ref v0]) := by
    intro y1 H locs ls hl hW hS hf
    unfold f_X12_known_35 at hf
    obtain ⟨k4, hf⟩ := hf
    refine gm_ci (va_runV (As := [.int y1]) (rest := []) ⟨hx, hb, hml, hown, hts⟩ (m_X12_goes l D cy tq _ Y _ _ _ _) (cwV 1 hts (good_V kw_1564 kw_1565 kw_1838 kw_12 kw_1566) rfl rfl rfl (by decide +kernel) ⟨Nat.le_of_ble_eq_true rfl, Nat.le_of_ble_eq_true rfl⟩) (gm_preV hK hW hC hS hA k4 (by decide) (q := (RX12, TX12, 68)) rfl rfl hf) rfl rfl hl.1 rfl (lv_room (Nat.le_of_ble_eq_true rfl)) dX12_known_35 ⟨Nat.le_of_ble_eq_true rfl, Nat.le_of_ble_eq_true rfl⟩) hW hS hA (fun r3 M2 H locs hW hS hf => ?_)
    refine lv_if_ne (tgt := 43) hx hb dX12_known_38 (by decide) (fun c5 => ?_) (fun c5 => ?_)
    · replace hf := hf.1 c5
      refine lv_iconst (v := 0) hx hb dX12_known_43 (by decide +kernel) ?_
      refine lv_istore (lv' := [(5, .int 0), (0, .ref v0), (1, .int v1), (2, .long v2), (4, .int v4)]) hx hb dX12_known_44 hl (by decide) rfl (fun ls hl => ?_)
      obtain ⟨n46, hf⟩ := hf
      have lp46 : ∀ (n46 : Nat) (x6 : Int32) (M7 : Mm) (H : Heap) (locs : List Loc) (ls : Array Slot), lv_has ls 7 [(0, .ref v0), (1, .int v1), (2, .long v2), (4, .int v4), (5, .int x6)] → Wd D cy A Y M7 H → va_S A s.heap H locs → LOOP2 (L_X12_known_46 Y v0 v1 v2 v4 Kn) n46 x6 M7 → W p l e rm_X12_known s m args below meth c H locs 0 0 (MQ below (va_Ql Kn (BG D cy A Y) A) args s 0 0 A) (F0 m 46 ls []) := by
        intro n46
        induction n46 with
        | zero => intro x6 M7 H locs ls hl hW hS hf; exact hf.elim
        | succ n46 ih46 =>
          intro x6 M7 H locs ls hl hW hS hf
          replace hf : L_X12_known_46 Y v0 v1 v2 v4 Kn x6 M7 (LOOP2 (L_X12_known_46 Y v0 v1 v2 v4 Kn) n46) := hf
          unfold L_X12_known_46 at hf
          refine lv_iload hx hb dX12_known_46 (lv_at hl 4 rfl) ?_
          refine lv_iconst (v := 5) hx hb dX12_known_48 (by decide +kernel) ?_
          have j69 : ∀ (M8 : Mm) (H : Heap) (locs : List Loc) (ls : Array Slot), lv_has ls 7 [(0, .ref v0), (1, .int v1), (2, .long v2), (4, .int v4), (5, .int x6)] → Wd D cy A Y M8 H → va_S A s.heap H locs → f_X12_known_69 Y v0 v1 v2 v4 Kn x6 M8 → W p l e rm_X12_known s m args below meth c H locs 0 0 (MQ below (va_Ql Kn (BG D cy A Y) A) args s 0 0 A) (F0 m 69 ls []) := by
            intro M8 H locs ls hl hW hS hf
            unfold f_X12_known_69 at hf
            refine lv_aload_n hx hb dX12_known_69 rfl (lv_at hl 0 rfl) ?_
            refine lv_iload_n hx hb dX12_known_70 rfl (lv_at hl 1 rfl) ?_
            refine lv_lload_n hx hb dX12_known_71 rfl (lv_at hl 2 rfl) ?_
            refine lv_iconst (v := 0) hx hb dX12_known_72 (by decide +kernel) ?_
            refine gm_ci (va_runV (As := [.int v1, .long v2, .int 0]) (rest := []) ⟨hx, hb, hml, hown, hts⟩ (m_X12_knownOne l D cy tq _ Y _ _ _ _ _ _) (cwV 3 hts (good_V kw_1572 kw_1573 kw_1840 kw_12 kw_1574) rfl rfl rfl (by decide +kernel) ⟨Nat.le_of_ble_eq_true rfl, Nat.le_of_ble_eq_true rfl⟩) (gm_preV hK hW hC hS hA k4 (by decide) (q := (RX12, TX12, 68)) rfl rfl hf) rfl rfl hl.1 rfl (lv_room (Nat.le_of_ble_eq_true rfl)) dX12_known_73 ⟨Nat.le_of_ble_eq_true rfl, Nat.le_of_ble_eq_true rfl⟩) hW hS hA (fun r10 M9 H locs hW hS hf => ?_)
            refine lv_istore (lv' := [(6, .int r10), (0, .ref v0), (1, .int v1), (2, .long v2), (4, .int v4), (5, .int x6)]) hx hb dX12_known_76 hl (by decide) rfl (fun ls hl => ?_)
            refine lv_iload hx hb dX12_known_78 (lv_at hl 4 rfl) ?_
            have j88 : ∀ (H : Heap) (locs : List Loc) (ls : Array Slot), lv_has ls 7 [(4, .int v4), (5, .int x6)] → Wd D cy A Y M9 H → va_S A s.heap H locs → f_X12_known_88 Y v4 Kn x6 M9  → W p l e rm_X12_known s m args below meth c H locs 0 0 (MQ below (va_Ql Kn (BG D cy A Y) A) args s 0 0 A) (F0 m 88 ls []) := by
              intro  H locs ls hl hW hS hf
              unfold f_X12_known_88 at hf
              refine lv_iload hx hb dX12_known_88 (lv_at hl 0 rfl) ?_
              have j102 : ∀ (y11 : Int64) (H : Heap) (locs : List Loc) (ls : Array Slot), lv_has ls 7 [] → Wd D cy A Y M9 H → va_S A s.heap H locs → f_X12_known_102 Y Kn M9 y11 → W p l e rm_X12_known s m args below meth c H locs 0 0 (MQ below (va_Ql Kn (BG D cy A Y) A) args s 0 0 A) (F0 m 102 ls [.long y11]) := by
                intro y11 H locs ls hl hW hS hf
                unfold f_X12_known_102 at hf
                exact gm_lret hx hb hr hlocks hW hS hf dX12_known_102
              refine lv_if_ne (tgt := 99) hx hb dX12_known_90 (by decide) (fun c12 => ?_) (fun c12 => ?_)
              · replace hf := hf.1 c12
                refine lv_ldc2 (v := -1) hx hb hown (hts _ kw_1523) dX12_known_99 ?_
                exact j102 _ _ _ _ (lv_sub hl [] rfl) hW hS hf
              · replace hf := hf.2 c12
                refine lv_iload hx hb dX12_known_93 (lv_at hl 1 rfl) ?_
                refine lv_i2l hx hb dX12_known_95 rfl ?_
                refine lv_goto (tgt := 102) hx hb dX12_known_96 (by decide) ?_
                exact j102 _ _ _ _ (lv_sub hl [] rfl) hW hS hf
            refine lv_if_eq (tgt := 88) hx hb dX12_known_80 (by decide) (fun c13 => ?_) (fun c13 => ?_)
            · replace hf := hf.1 c13
              exact j88  _ _ _ (lv_sub hl [4, 5] rfl) hW hS hf
            · replace hf := hf.2 c13
              refine lv_iload hx hb dX12_known_83 (lv_at hl 0 rfl) ?_
              refine lv_if_ge (tgt := 103) hx hb dX12_known_85 (by decide) (fun c14 => ?_) (fun c14 => ?_)
              · replace hf := hf.1 c14
                refine lv_iload hx hb dX12_known_103 (lv_at hl 4 rfl) ?_
                refine lv_iconst (v := 1) hx hb dX12_known_105 (by decide +kernel) ?_
                have j150 : ∀ (y15 : Int64) (M16 : Mm) (H : Heap) (locs : List Loc) (ls : Array Slot), lv_has ls 7 [] → Wd D cy A Y M16 H → va_S A s.heap H locs → f_X12_known_150 Y Kn y15 M16 → W p l e rm_X12_known s m args below meth c H locs 0 0 (MQ below (va_Ql Kn (BG D cy A Y) A) args s 0 0 A) (F0 m 150 ls [.long y15]) := by
                  intro y15 M16 H locs ls hl hW hS hf
                  unfold f_X12_known_150 at hf
                  exact gm_lret hx hb hr hlocks hW hS hf dX12_known_150
                refine lv_icmp_ne (tgt := 119) hx hb dX12_known_106 (by decide) (fun c17 => ?_) (fun c17 => ?_)
                · replace hf := hf.1 c17
                  refine lv_iload hx hb dX12_known_119 (lv_at hl 4 rfl) ?_
                  refine lv_iconst (v := 2) hx hb dX12_known_121 (by decide +kernel) ?_
                  refine lv_icmp_ne (tgt := 144) hx hb dX12_known_122 (by decide) (fun c18 => ?_) (fun c18 => ?_)
                  · replace hf := hf.1 c18
                    refine lv_aload_n hx hb dX12_known_144 rfl (lv_at hl 1 rfl) ?_
                    refine lv_iload hx hb dX12_known_145 (lv_at hl 0 rfl) ?_
                    refine gm_cl (va_runV (As := [.int r10]) (rest := []) ⟨hx, hb, hml, hown, hts⟩ (m_X12_base l D cy tq _ Y _ _ _ _) (cwV 1 hts (good_V kw_1588 kw_1589 kw_1845 kw_12 kw_1590) rfl rfl rfl (by decide +kernel) ⟨Nat.le_of_ble_eq_true rfl, Nat.le_of_ble_eq_true rfl⟩) (gm_preV hK hW hC hS hA k4 (by decide) (q := (RX12, TX12, 68)) rfl rfl hf) rfl rfl hl.1 rfl (lv_room (Nat.le_of_ble_eq_true rfl)) dX12_known_147 ⟨Nat.le_of_ble_eq_true rfl, Nat.le_of_ble_eq_true rfl⟩) hW hS hA (fun r20 M19 H locs hW hS hf => ?_)
                    exact j150 _ _ _ _ _ (lv_sub hl [] rfl) hW hS hf
                  · replace hf := hf.2 c18
                    refine lv_aload_n hx hb dX12_known_125 rfl (lv_at hl 1 rfl) ?_
                    refine lv_iload hx hb dX12_known_126 (lv_at hl 0 rfl) ?_
                    refine gm_ci (va_runV (As := [.int r10]) (rest := []) ⟨hx, hb, hml, hown, hts⟩ (m_X12_sequenceOf l D cy tq _ Y _ _ _ _) (cwV 1 hts (good_V kw_1582 kw_1583 kw_1843 kw_12 kw_1584) rfl rfl rfl (by decide +kernel) ⟨Nat.le_of_ble_eq_true rfl, Nat.le_of_ble_eq_true rfl⟩) (gm_preV hK hW hC hS hA k4 (by decide) (q := (RX12, TX12, 68)) rfl rfl hf) rfl rfl hl.1 rfl (lv_room (Nat.le_of_ble_eq_true rfl)) dX12_known_128 ⟨Nat.le_of_ble_eq_true rfl, Nat.le_of_ble_eq_true rfl⟩) hW hS hA (fun r22 M21 H locs hW hS hf => ?_)
                    refine lv_aload_n hx hb dX12_known_131 rfl (lv_at hl 1 rfl) ?_
                    refine lv_iload hx hb dX12_known_132 (lv_at hl 0 rfl) ?_
                    refine gm_ci (va_runV (As := [.int r10]) (rest := [.int r22]) ⟨hx, hb, hml, hown, hts⟩ (m_X12_last l D cy tq _ Y _ _ _ _) (cwV 1 hts (good_V kw_1585 kw_1586 kw_1844 kw_12 kw_1587) rfl rfl rfl (by decide +kernel) ⟨Nat.le_of_ble_eq_true rfl, Nat.le_of_ble_eq_true rfl⟩) (gm_preV hK hW hC hS hA k4 (by decide) (q := (RX12, TX12, 68)) rfl rfl hf) rfl rfl hl.1 rfl (lv_room (Nat.le_of_ble_eq_true rfl)) dX12_known_134 ⟨Nat.le_of_ble_eq_true rfl, Nat.le_of_ble_eq_true rfl⟩) hW hS hA (fun r24 M23 H locs hW hS hf => ?_)
                    refine gm_ci (va_runS (As := [.int r22, .int r24]) (rest := []) ⟨hx, hb, hml, hown, hts⟩ (m_X12_after l D cy tq _ Y _ _ _ _) (va_cwS 2 hts (good_S kw_1591 kw_1592 kw_12 kw_1593) rfl rfl rfl (by decide +kernel) ⟨Nat.le_of_ble_eq_true rfl, Nat.le_of_ble_eq_true rfl⟩) (gm_preS hK hW hC hS hA hf) rfl rfl hl.1 rfl (lv_room (Nat.le_of_ble_eq_true rfl)) dX12_known_137 ⟨Nat.le_of_ble_eq_true rfl, Nat.le_of_ble_eq_true rfl⟩) hW hS hA (fun r26 M25 H locs hW hS hf => ?_)
                    refine lv_i2l hx hb dX12_known_140 rfl ?_
                    refine lv_goto (tgt := 150) hx hb dX12_known_141 (by decide) ?_
                    exact j150 _ _ _ _ _ (lv_sub hl [] rfl) hW hS hf
                · replace hf := hf.2 c17
                  refine lv_aload_n hx hb dX12_known_109 rfl (lv_at hl 1 rfl) ?_
                  refine lv_iload hx hb dX12_known_110 (lv_at hl 0 rfl) ?_
                  refine gm_ci (va_runV (As := [.int r10]) (rest := []) ⟨hx, hb, hml, hown, hts⟩ (m_X12_epochOf l D cy tq _ Y _ _ _ _) (cwV 1 hts (good_V kw_1578 kw_1579 kw_1842 kw_12 kw_1580) rfl rfl rfl (by decide +kernel) ⟨Nat.le_of_ble_eq_true rfl, Nat.le_of_ble_eq_true rfl⟩) (gm_preV hK hW hC hS hA k4 (by decide) (q := (RX12, TX12, 68)) rfl rfl hf) rfl rfl hl.1 rfl (lv_room (Nat.le_of_ble_eq_true rfl)) dX12_known_112 ⟨Nat.le_of_ble_eq_true rfl, Nat.le_of_ble_eq_true rfl⟩) hW hS hA (fun r28 M27 H locs hW hS hf => ?_)
                  refine lv_i2l hx hb dX12_known_115 rfl ?_
                  refine lv_goto (tgt := 150) hx hb dX12_known_116 (by decide) ?_
                  exact j150 _ _ _ _ _ (lv_sub hl [] rfl) hW hS hf
              · replace hf := hf.2 c14
                exact j88  _ _ _ (lv_sub hl [4, 5] rfl) hW hS hf
          refine lv_icmp_ge (tgt := 69) hx hb dX12_known_49 (by decide) (fun c29 => ?_) (fun c29 => ?_)
          · replace hf := hf.1 c29
            exact j69 _ _ _ _ (lv_sub hl [0, 1, 2, 3, 4] rfl) hW hS hf
          · replace hf := hf.2 c29
            refine lv_aload_n hx hb dX12_known_52 rfl (lv_at hl 0 rfl) ?_
            refine lv_iload_n hx hb dX12_known_53 rfl (lv_at hl 1 rfl) ?_
            refine lv_lload_n hx hb dX12_known_54 rfl (lv_at hl 2 rfl) ?_
            refine lv_iload hx hb dX12_known_55 (lv_at hl 4 rfl) ?_
            refine gm_ci (va_runV (As := [.int v1, .long v2, .int x6]) (rest := []) ⟨hx, hb, hml, hown, hts⟩ (m_X12_knownOne l D cy tq _ Y _ _ _ _ _ _) (cwV 3 hts (good_V kw_1572 kw_1573 kw_1840 kw_12 kw_1574) rfl rfl rfl (by decide +kernel) ⟨Nat.le_of_ble_eq_true rfl, Nat.le_of_ble_eq_true rfl⟩) (gm_preV hK hW hC hS hA k4 (by decide) (q := (RX12, TX12, 68)) rfl rfl hf) rfl rfl hl.1 rfl (lv_room (Nat.le_of_ble_eq_true rfl)) dX12_known_57 ⟨Nat.le_of_ble_eq_true rfl, Nat.le_of_ble_eq_true rfl⟩) hW hS hA (fun r31 M30 H locs hW hS hf => ?_)
            refine lv_if_lt (tgt := 69) hx hb dX12_known_60 (by decide) (fun c32 => ?_) (fun c32 => ?_)
            · replace hf := hf.1 c32
              exact j69 _ _ _ _ (lv_sub hl [0, 1, 2, 3, 4] rfl) hW hS hf
            · replace hf := hf.2 c32
              obtain ⟨x33, ex33⟩ : ∃ y : Int32, y = x6 + 1 := ⟨_, rfl⟩
              replace hf := hf x33 ex33
              refine lv_iinc (v := x33) (lv' := [(5, .int x33), (0, .ref v0), (1, .int v1), (2, .long v2), (4, .int v4)]) hx hb dX12_known_63 hl (k := 4) rfl (by rw [ex33]; rfl) (by decide) rfl (fun ls hl => ?_)
              refine lv_goto (tgt := 46) hx hb dX12_known_66 (by decide) ?_
              exact ih46 _ _ _ _ _ (lv_sub hl [1, 2, 3, 4, 0] rfl) hW hS hf
      exact lp46 n46 _ _ _ _ _ (lv_sub hl [1, 2, 3, 4, 0] rfl) hW hS hf
    · replace hf := hf.2 c5
      refine lv_lconst (v := 0) hx hb dX12_known_41 (by decide) ?_
      exact gm_lret hx hb hr hlocks hW hS hf dX12_known_42
  have j34 : ∀ (H : Heap) (locs : List Loc) (ls : Array Slot), lv_has ls 7 [(0, .ref v0), (1, .int v1), (2, .long v2), (4, .int v4)] → Wd D cy A Y M H → va_S A s.heap H locs → f_X12_known_34 Y v0 v1 v2 v4 M Kn  → W p l e rm_X12_known s m args below meth c H locs 0 0 (MQ below (va_Ql Kn (BG D cy A Y) A) args s 0 0 A) (F0 m 34 ls [.ref v0]) := by
    intro  H locs ls hl hW hS hf
    unfold f_X12_known_34 at hf
    refine lv_iconst (v := 0) hx hb dX12_known_34 (by decide +kernel) ?_
    exact j35 _ _ _ _ (lv_sub hl [0, 1, 2, 3] rfl) hW hS hf
  refine lv_if_lt (tgt := 34) hx hb dX12_known_2 (by decide) (fun c34 => ?_) (fun c34 => ?_)
  · replace hf := hf.1 c34
    exact j34  _ _ _ (lv_sub hl [0, 1, 2, 3] rfl) hW hS hf
  · replace hf := hf.2 c34
    refine lv_iload_n hx hb dX12_known_5 rfl (lv_at hl 1 rfl) ?_
    refine lv_aload_n hx hb dX12_known_6 rfl (lv_at hl 0 rfl) ?_
    obtain ⟨k35, hf⟩ := hf
    refine gm_getI (C := RX12) (T := TX12) (N := 68) (j := 1) hx hb hts inT_12 hown hK hW k35 (by decide) rfl (by decide) rfl (hts _ kw_1317) rfl dX12_known_7 ?_
    refine lv_icmp_gt (tgt := 34) hx hb dX12_known_10 (by decide) (fun c36 => ?_) (fun c36 => ?_)
    · replace hf := hf.1 c36
      exact j34  _ _ _ (lv_sub hl [0, 1, 2, 3] rfl) hW hS hf
    · replace hf := hf.2 c36
      refine lv_lload_n hx hb dX12_known_13 rfl (lv_at hl 2 rfl) ?_
      refine lv_lconst (v := 0) hx hb dX12_known_14 (by decide) ?_
      refine W.lcmp hx hb dX12_known_15 ?_
      refine lv_if_lt (tgt := 34) hx hb dX12_known_16 (by decide) (fun c37 => ?_) (fun c37 => ?_)
      · replace hf := hf.1 (lg_lt.mp c37)
        exact j34  _ _ _ (lv_sub hl [0, 1, 2, 3] rfl) hW hS hf
      · replace hf := hf.2 (fun z => c37 (lg_lt.mpr z))
        refine lv_iload hx hb dX12_known_19 (lv_at hl 3 rfl) ?_
        refine lv_if_lt (tgt := 34) hx hb dX12_known_21 (by decide) (fun c38 => ?_) (fun c38 => ?_)
        · replace hf := hf.1 c38
          exact j34  _ _ _ (lv_sub hl [0, 1, 2, 3] rfl) hW hS hf
        · replace hf := hf.2 c38
          refine lv_iload hx hb dX12_known_24 (lv_at hl 3 rfl) ?_
          refine lv_iconst (v := 3) hx hb dX12_known_26 (by decide +kernel) ?_
          refine lv_icmp_gt (tgt := 34) hx hb dX12_known_27 (by decide) (fun c39 => ?_) (fun c39 => ?_)
          · replace hf := hf.1 c39
            exact j34  _ _ _ (lv_sub hl [0, 1, 2, 3] rfl) hW hS hf
          · replace hf := hf.2 c39
            refine lv_iconst (v := 1) hx hb dX12_known_30 (by decide +kernel) ?_
            refine lv_goto (tgt := 35) hx hb dX12_known_31 (by decide) ?_
            exact j35 _ _ _ _ (lv_sub hl [0, 1, 2, 3] rfl) hW hS hf

abbrev rm_X12_log : Room := { frames := 4, cells := 0, slots := 0, locals := 126 }
def f_X12_log_137 (Y : Ly) (x7 : Int64) (x8 : Int32) (again80 : Int64 → Int32 → Mm → Prop) (y14 : Int64) (M15 : Mm) : Prop :=
  ∀ x16 : Int64, x16 = x7 + y14 → (∀ x17 : Int32, x17 = x8 + 1 → (again80 x16 x17 M15))
def L_X12_log_80 (Y : Ly) (v0 : Nat) (v1 : Int32) (v2 : Int32) (Kn : Int64 → Mm → Prop) (x7 : Int64) (x8 : Int32) (M9 : Mm) (again80 : Int64 → Int32 → Mm → Prop) : Prop :=
  ((mI M9 v0 18) ≤ x8 → (Kn x7 M9)) ∧ (¬ ((mI M9 v0 18) ≤ x8) → (∃ b11 : Nat, mR M9 v0 19 = some b11 ∧ (yK Y b11 = 101 ∧ (vp_in x8 (yN Y b11) ∧ (((mI M9 b11 x8.toNatClampNeg) = v1 → ((¬ v2 = 3 → ((¬ v2 = 4 → (∃ b21 : Nat, mR M9 v0 21 = some b21 ∧ (yK Y b21 = 101 ∧ (vp_in x8 (yN Y b21) ∧ (f_X12_log_137 Y x7 x8 again80 ((mI M9 b21 x8.toNatClampNeg).toInt64) M9))))) ∧ (v2 = 4 → (f_X12_countOf Y v0 x8 M9 (fun r25 M24 => (f_X12_log_137 Y x7 x8 again80 r25.toInt64 M24)))))) ∧ (v2 = 3 → (f_X12_log_137 Y x7 x8 again80 1 M9)))) ∧ (¬ ((mI M9 b11 x8.toNatClampNeg) = v1) → (f_X12_log_137 Y x7 x8 again80 0 M9)))))))
def f_X12_log_74 (Y : Ly) (Kn : Int64 → Mm → Prop) (M2 : Mm) (y26 : Int64) : Prop :=
  Kn y26 M2
def f_X12_log_27 (Y : Ly) (v0 : Nat) (v1 : Int32) (v2 : Int32) (M : Mm) (Kn : Int64 → Mm → Prop) (y1 : Int32) : Prop :=
  yK Y v0 = 12 ∧ (f_X12_goes Y v0 y1 M (fun r3 M2 => ((¬ r3 = 0 → ((3 ≤ v2 → (∃ n, LOOP3 (L_X12_log_80 Y v0 v1 v2 Kn) n 0 0 M2)) ∧ (¬ (3 ≤ v2) → ((¬ v2 = 0 → ((¬ v2 = 1 → (∃ b29 : Nat, mR M2 v0 28 = some b29 ∧ (yK Y b29 = 101 ∧ (vp_in v1 (yN Y b29) ∧ (f_X12_log_74 Y Kn M2 ((mI M2 b29 v1.toNatClampNeg).toInt64)))))) ∧ (v2 = 1 → (∃ b32 : Nat, mR M2 v0 27 = some b32 ∧ (yK Y b32 = 102 ∧ (vp_in v1 (yN Y b32) ∧ (f_X12_log_74 Y Kn M2 (mJ M2 b32 v1.toNatClampNeg)))))))) ∧ (v2 = 0 → (∃ b35 : Nat, mR M2 v0 26 = some b35 ∧ (yK Y b35 = 102 ∧ (vp_in v1 (yN Y b35) ∧ (f_X12_log_74 Y Kn M2 (mJ M2 b35 v1.toNatClampNeg)))))))))) ∧ (r3 = 0 → (Kn 0 M2)))))
def f_X12_log_26 (Y : Ly) (v0 : Nat) (v1 : Int32) (v2 : Int32) (M : Mm) (Kn : Int64 → Mm → Prop) : Prop :=
  f_X12_log_27 Y v0 v1 v2 M Kn 0
def f_X12_log (Y : Ly) (v0 : Nat) (v1 : Int32) (v2 : Int32) (M : Mm) (Kn : Int64 → Mm → Prop) : Prop :=
  (v1 < 0 → (f_X12_log_26 Y v0 v1 v2 M Kn)) ∧ (¬ (v1 < 0) → (yK Y v0 = 12 ∧ (((mI M v0 1) < v1 → (f_X12_log_26 Y v0 v1 v2 M Kn)) ∧ (¬ ((mI M v0 1) < v1) → ((v2 < 0 → (f_X12_log_26 Y v0 v1 v2 M Kn)) ∧ (¬ (v2 < 0) → ((5 < v2 → (f_X12_log_26 Y v0 v1 v2 M Kn)) ∧ (¬ (5 < v2) → (f_X12_log_27 Y v0 v1 v2 M Kn 1)))))))))
set_option maxHeartbeats 4000000 in
set_option maxRecDepth 100000 in
theorem m_X12_log (l : Launch) (D : va_G) (cy : Cy) (tq sz : Nat) (Y : Ly) (v0 : Nat) (v1 : Int32) (v2 : Int32) (M : Mm) (Kn : Int64 → Mm → Prop) : Met l yX12_log (Cond.code yX12_log cX12_log 6 (some .long) :: TT) rm_X12_log (PcG D cy tq [.ref v0, .int v1, .int v2] sz Y M (f_X12_log Y v0 v1 v2 M Kn)) (va_Ql Kn (BG D cy (Am Y sz) Y) (Am Y sz)) 0 0 (Am Y sz) := by
  refine Met.ofW (cc := cX12_log) (maxL := 6) (ret := (some .long)) (by decide) rfl ?_
  intro p e s m args below meth c s₁ B hml hv
  obtain ⟨hargs, hsz, hW, hK, hC, hf⟩ := hv
  subst hsz
  have hx := B.exec
  have hb := B.bytes
  have hr := B.returns
  have hts : ∀ w ∈ TT, w.before args s = true := fun w h => atoms_spec (ws := Cond.code yX12_log cX12_log 6 (some .long) :: TT) B.pre w (List.mem_cons_of_mem _ h)
  have hown : s.vm.findClass RX12 = some m.cls := findClass_of_methodNamed B.named
  have hlocks := B.notSynchronized
  replace hW := Wd_self (sz := s.heap.size) hW
  generalize hAe : Am Y s.heap.size = A at hW hC ⊢
  have hA : ∀ q : Nat, s.heap.size ≤ q → A q := fun q h => by rw [← hAe]; exact Or.inr h
  clear hAe
  have hS : va_S A s.heap s.heap [] := va_S.rf
  obtain ⟨ls, hE, hl⟩ := gm_entry m [.ref v0, .int v1, .int v2] (n := 6) hargs (Nat.le_of_ble_eq_true rfl)
  rw [hE]
  have hl : lv_has ls 6 [(0, .ref v0), (1, .int v1), (2, .int v2)] := hl
  show W p l e rm_X12_log s m args below meth c s.heap [] 0 0 (MQ below (va_Ql Kn (BG D cy A Y) A) args s 0 0 A) (F0 m 0 ls [])
  unfold f_X12_log at hf
  refine lv_aload_n hx hb dX12_log_0 rfl (lv_at hl 0 rfl) ?_
  refine lv_iload_n hx hb dX12_log_1 rfl (lv_at hl 1 rfl) ?_
  have j27 : ∀ (y1 : Int32) (H : Heap) (locs : List Loc) (ls : Array Slot), lv_has ls 6 [(0, .ref v0), (1, .int v1), (2, .int v2)] → Wd D cy A Y M H → va_S A s.heap H locs → f_X12_log_27 Y v0 v1 v2 M Kn y1 → W p l e rm_X12_log s m args below meth c H locs 0 0 (MQ below (va_Ql Kn (BG D cy A Y) A) args s 0 0 A) (F0 m 27 ls [.int y1, .ref v0]) := by
    intro y1 H locs ls hl hW hS hf
    unfold f_X12_log_27 at hf
    obtain ⟨k4, hf⟩ := hf
    refine gm_ci (va_runV (As := [.int y1]) (rest := []) ⟨hx, hb, hml, hown, hts⟩ (m_X12_goes l D cy tq _ Y _ _ _ _) (cwV 1 hts (good_V kw_1564 kw_1565 kw_1838 kw_12 kw_1566) rfl rfl rfl (by decide +kernel) ⟨Nat.le_of_ble_eq_true rfl, Nat.le_of_ble_eq_true rfl⟩) (gm_preV hK hW hC hS hA k4 (by decide) (q := (RX12, TX12, 68)) rfl rfl hf) rfl rfl hl.1 rfl (lv_room (Nat.le_of_ble_eq_true rfl)) dX12_log_27 ⟨Nat.le_of_ble_eq_true rfl, Nat.le_of_ble_eq_true rfl⟩) hW hS hA (fun r3 M2 H locs hW hS hf => ?_)
    refine lv_if_ne (tgt := 35) hx hb dX12_log_30 (by decide) (fun c5 => ?_) (fun c5 => ?_)
    · replace hf := hf.1 c5
      refine lv_iload_n hx hb dX12_log_35 rfl (lv_at hl 2 rfl) ?_
      refine lv_iconst (v := 3) hx hb dX12_log_36 (by decide +kernel) ?_
      refine lv_icmp_ge (tgt := 75) hx hb dX12_log_37 (by decide) (fun c6 => ?_) (fun c6 => ?_)
      · replace hf := hf.1 c6
        refine lv_lconst (v := 0) hx hb dX12_log_75 (by decide) ?_
        refine lv_lstore_n (lv' := [(3, .long 0), (0, .ref v0), (1, .int v1), (2, .int v2)]) hx hb dX12_log_76 rfl hl (by decide) rfl (fun ls hl => ?_)
        refine lv_iconst (v := 0) hx hb dX12_log_77 (by decide +kernel) ?_
        refine lv_istore (lv' := [(5, .int 0), (3, .long 0), (0, .ref v0), (1, .int v1), (2, .int v2)]) hx hb dX12_log_78 hl (by decide) rfl (fun ls hl => ?_)
        obtain ⟨n80, hf⟩ := hf
        have lp80 : ∀ (n80 : Nat) (x7 : Int64) (x8 : Int32) (M9 : Mm) (H : Heap) (locs : List Loc) (ls : Array Slot), lv_has ls 6 [(0, .ref v0), (1, .int v1), (2, .int v2), (3, .long x7), (5, .int x8)] → Wd D cy A Y M9 H → va_S A s.heap H locs → LOOP3 (L_X12_log_80 Y v0 v1 v2 Kn) n80 x7 x8 M9 → W p l e rm_X12_log s m args below meth c H locs 0 0 (MQ below (va_Ql Kn (BG D cy A Y) A) args s 0 0 A) (F0 m 80 ls []) := by
          intro n80
          induction n80 with
          | zero => intro x7 x8 M9 H locs ls hl hW hS hf; exact hf.elim
          | succ n80 ih80 =>
            intro x7 x8 M9 H locs ls hl hW hS hf
            replace hf : L_X12_log_80 Y v0 v1 v2 Kn x7 x8 M9 (LOOP3 (L_X12_log_80 Y v0 v1 v2 Kn) n80) := hf
            unfold L_X12_log_80 at hf
            refine lv_iload hx hb dX12_log_80 (lv_at hl 4 rfl) ?_
            refine lv_aload_n hx hb dX12_log_82 rfl (lv_at hl 0 rfl) ?_
            refine gm_getI (C := RX12) (T := TX12) (N := 68) (j := 18) hx hb hts inT_12 hown hK hW k4 (by decide) rfl (by decide) rfl (hts _ kw_1334) rfl dX12_log_83 ?_
            refine lv_icmp_ge (tgt := 145) hx hb dX12_log_86 (by decide) (fun c10 => ?_) (fun c10 => ?_)
            · replace hf := hf.1 c10
              refine lv_lload_n hx hb dX12_log_145 rfl (lv_at hl 3 rfl) ?_
              exact gm_lret hx hb hr hlocks hW hS hf dX12_log_146
            · replace hf := hf.2 c10
              refine lv_lload_n hx hb dX12_log_89 rfl (lv_at hl 3 rfl) ?_
              refine lv_aload_n hx hb dX12_log_90 rfl (lv_at hl 0 rfl) ?_
              obtain ⟨b11, hb11, hf⟩ := hf
              refine gm_getR (C := RX12) (T := TX12) (N := 68) (j := 19) hx hb hts inT_12 hown hK hW k4 (by decide) rfl (by decide) rfl (hts _ kw_1335) rfl dX12_log_91 hb11 ?_
              refine lv_iload hx hb dX12_log_94 (lv_at hl 4 rfl) ?_
              obtain ⟨k12, hf⟩ := hf
              obtain ⟨h13, hf⟩ := hf
              refine gm_iald hx hb hK hW k12 h13 dX12_log_96 ?_
              refine lv_iload_n hx hb dX12_log_97 rfl (lv_at hl 1 rfl) ?_
              have j137 : ∀ (y14 : Int64) (M15 : Mm) (H : Heap) (locs : List Loc) (ls : Array Slot), lv_has ls 6 [(0, .ref v0), (1, .int v1), (2, .int v2), (5, .int x8)] → Wd D cy A Y M15 H → va_S A s.heap H locs → f_X12_log_137 Y x7 x8 (LOOP3 (L_X12_log_80 Y v0 v1 v2 Kn) n80) y14 M15 → W p l e rm_X12_log s m args below meth c H locs 0 0 (MQ below (va_Ql Kn (BG D cy A Y) A) args s 0 0 A) (F0 m 137 ls [.long y14, .long x7]) := by
                intro y14 M15 H locs ls hl hW hS hf
                unfold f_X12_log_137 at hf
                refine lv_ladd hx hb dX12_log_137 ?_
                refine lv_topl (fun x16 ex16 => ?_)
                replace hf := hf x16 ex16
                refine lv_lstore_n (lv' := [(3, .long x16), (0, .ref v0), (1, .int v1), (2, .int v2), (5, .int x8)]) hx hb dX12_log_138 rfl hl (by decide) rfl (fun ls hl => ?_)
                obtain ⟨x17, ex17⟩ : ∃ y : Int32, y = x8 + 1 := ⟨_, rfl⟩
                replace hf := hf x17 ex17
                refine lv_iinc (v := x17) (lv' := [(5, .int x17), (3, .long x16), (0, .ref v0), (1, .int v1), (2, .int v2)]) hx hb dX12_log_139 hl (k := 4) rfl (by rw [ex17]; rfl) (by decide) rfl (fun ls hl => ?_)
                refine lv_goto (tgt := 80) hx hb dX12_log_142 (by decide) ?_
                exact ih80 _ _ _ _ _ _ (lv_sub hl [2, 3, 4, 1, 0] rfl) hW hS hf
              refine lv_icmp_eq (tgt := 105) hx hb dX12_log_98 (by decide) (fun c18 => ?_) (fun c18 => ?_)
              · replace hf := hf.1 c18
                refine lv_iload_n hx hb dX12_log_105 rfl (lv_at hl 2 rfl) ?_
                refine lv_iconst (v := 3) hx hb dX12_log_106 (by decide +kernel) ?_
                refine lv_icmp_ne (tgt := 114) hx hb dX12_log_107 (by decide) (fun c19 => ?_) (fun c19 => ?_)
                · replace hf := hf.1 c19
                  refine lv_iload_n hx hb dX12_log_114 rfl (lv_at hl 2 rfl) ?_
                  refine lv_iconst (v := 4) hx hb dX12_log_115 (by decide +kernel) ?_
                  refine lv_icmp_ne (tgt := 129) hx hb dX12_log_116 (by decide) (fun c20 => ?_) (fun c20 => ?_)
                  · replace hf := hf.1 c20
                    refine lv_aload_n hx hb dX12_log_129 rfl (lv_at hl 0 rfl) ?_
                    obtain ⟨b21, hb21, hf⟩ := hf
                    refine gm_getR (C := RX12) (T := TX12) (N := 68) (j := 21) hx hb hts inT_12 hown hK hW k4 (by decide) rfl (by decide) rfl (hts _ kw_1337) rfl dX12_log_130 hb21 ?_
                    refine lv_iload hx hb dX12_log_133 (lv_at hl 4 rfl) ?_
                    obtain ⟨k22, hf⟩ := hf
                    obtain ⟨h23, hf⟩ := hf
                    refine gm_iald hx hb hK hW k22 h23 dX12_log_135 ?_
                    refine lv_i2l hx hb dX12_log_136 rfl ?_
                    exact j137 _ _ _ _ _ (lv_sub hl [0, 1, 2, 4] rfl) hW hS hf
                  · replace hf := hf.2 c20
                    refine lv_aload_n hx hb dX12_log_119 rfl (lv_at hl 0 rfl) ?_
                    refine lv_iload hx hb dX12_log_120 (lv_at hl 4 rfl) ?_
                    refine gm_ci (va_runV (As := [.int x8]) (rest := [.long x7]) ⟨hx, hb, hml, hown, hts⟩ (m_X12_countOf l D cy tq _ Y _ _ _ _) (cwV 1 hts (good_V kw_1615 kw_1616 kw_1851 kw_12 kw_1617) rfl rfl rfl (by decide +kernel) ⟨Nat.le_of_ble_eq_true rfl, Nat.le_of_ble_eq_true rfl⟩) (gm_preV hK hW hC hS hA k4 (by decide) (q := (RX12, TX12, 68)) rfl rfl hf) rfl rfl hl.1 rfl (lv_room (Nat.le_of_ble_eq_true rfl)) dX12_log_122 ⟨Nat.le_of_ble_eq_true rfl, Nat.le_of_ble_eq_true rfl⟩) hW hS hA (fun r25 M24 H locs hW hS hf => ?_)
                    refine lv_i2l hx hb dX12_log_125 rfl ?_
                    refine lv_goto (tgt := 137) hx hb dX12_log_126 (by decide) ?_
                    exact j137 _ _ _ _ _ (lv_sub hl [0, 1, 2, 4] rfl) hW hS hf
                · replace hf := hf.2 c19
                  refine lv_lconst (v := 1) hx hb dX12_log_110 (by decide) ?_
                  refine lv_goto (tgt := 137) hx hb dX12_log_111 (by decide) ?_
                  exact j137 _ _ _ _ _ (lv_sub hl [0, 1, 2, 4] rfl) hW hS hf
              · replace hf := hf.2 c18
                refine lv_lconst (v := 0) hx hb dX12_log_101 (by decide) ?_
                refine lv_goto (tgt := 137) hx hb dX12_log_102 (by decide) ?_
                exact j137 _ _ _ _ _ (lv_sub hl [0, 1, 2, 4] rfl) hW hS hf
        exact lp80 n80 _ _ _ _ _ _ (lv_sub hl [2, 3, 4, 1, 0] rfl) hW hS hf
      · replace hf := hf.2 c6
        refine lv_iload_n hx hb dX12_log_40 rfl (lv_at hl 2 rfl) ?_
        have j74 : ∀ (y26 : Int64) (H : Heap) (locs : List Loc) (ls : Array Slot), lv_has ls 6 [] → Wd D cy A Y M2 H → va_S A s.heap H locs → f_X12_log_74 Y Kn M2 y26 → W p l e rm_X12_log s m args below meth c H locs 0 0 (MQ below (va_Ql Kn (BG D cy A Y) A) args s 0 0 A) (F0 m 74 ls [.long y26]) := by
          intro y26 H locs ls hl hW hS hf
          unfold f_X12_log_74 at hf
          exact gm_lret hx hb hr hlocks hW hS hf dX12_log_74
        refine lv_if_ne (tgt := 53) hx hb dX12_log_41 (by decide) (fun c27 => ?_) (fun c27 => ?_)
        · replace hf := hf.1 c27
          refine lv_iload_n hx hb dX12_log_53 rfl (lv_at hl 2 rfl) ?_
          refine lv_iconst (v := 1) hx hb dX12_log_54 (by decide +kernel) ?_
          refine lv_icmp_ne (tgt := 67) hx hb dX12_log_55 (by decide) (fun c28 => ?_) (fun c28 => ?_)
          · replace hf := hf.1 c28
            refine lv_aload_n hx hb dX12_log_67 rfl (lv_at hl 0 rfl) ?_
            obtain ⟨b29, hb29, hf⟩ := hf
            refine gm_getR (C := RX12) (T := TX12) (N := 68) (j := 28) hx hb hts inT_12 hown hK hW k4 (by decide) rfl (by decide) rfl (hts _ kw_1344) rfl dX12_log_68 hb29 ?_
            refine lv_iload_n hx hb dX12_log_71 rfl (lv_at hl 1 rfl) ?_
            obtain ⟨k30, hf⟩ := hf
            obtain ⟨h31, hf⟩ := hf
            refine gm_iald hx hb hK hW k30 h31 dX12_log_72 ?_
            refine lv_i2l hx hb dX12_log_73 rfl ?_
            exact j74 _ _ _ _ (lv_sub hl [] rfl) hW hS hf
          · replace hf := hf.2 c28
            refine lv_aload_n hx hb dX12_log_58 rfl (lv_at hl 0 rfl) ?_
            obtain ⟨b32, hb32, hf⟩ := hf
            refine gm_getR (C := RX12) (T := TX12) (N := 68) (j := 27) hx hb hts inT_12 hown hK hW k4 (by decide) rfl (by decide) rfl (hts _ kw_1343) rfl dX12_log_59 hb32 ?_
            refine lv_iload_n hx hb dX12_log_62 rfl (lv_at hl 1 rfl) ?_
            obtain ⟨k33, hf⟩ := hf
            obtain ⟨h34, hf⟩ := hf
            refine gm_lald hx hb hK hW k33 h34 dX12_log_63 ?_
            refine lv_goto (tgt := 74) hx hb dX12_log_64 (by decide) ?_
            exact j74 _ _ _ _ (lv_sub hl [] rfl) hW hS hf
        · replace hf := hf.2 c27
          refine lv_aload_n hx hb dX12_log_44 rfl (lv_at hl 0 rfl) ?_
          obtain ⟨b35, hb35, hf⟩ := hf
          refine gm_getR (C := RX12) (T := TX12) (N := 68) (j := 26) hx hb hts inT_12 hown hK hW k4 (by decide) rfl (by decide) rfl (hts _ kw_1342) rfl dX12_log_45 hb35 ?_
          refine lv_iload_n hx hb dX12_log_48 rfl (lv_at hl 1 rfl) ?_
          obtain ⟨k36, hf⟩ := hf
          obtain ⟨h37, hf⟩ := hf
          refine gm_lald hx hb hK hW k36 h37 dX12_log_49 ?_
          refine lv_goto (tgt := 74) hx hb dX12_log_50 (by decide) ?_
          exact j74 _ _ _ _ (lv_sub hl [] rfl) hW hS hf
    · replace hf := hf.2 c5
      refine lv_lconst (v := 0) hx hb dX12_log_33 (by decide) ?_
      exact gm_lret hx hb hr hlocks hW hS hf dX12_log_34
  have j26 : ∀ (H : Heap) (locs : List Loc) (ls : Array Slot), lv_has ls 6 [(0, .ref v0), (1, .int v1), (2, .int v2)] → Wd D cy A Y M H → va_S A s.heap H locs → f_X12_log_26 Y v0 v1 v2 M Kn  → W p l e rm_X12_log s m args below meth c H locs 0 0 (MQ below (va_Ql Kn (BG D cy A Y) A) args s 0 0 A) (F0 m 26 ls [.ref v0]) := by
    intro  H locs ls hl hW hS hf
    unfold f_X12_log_26 at hf
    refine lv_iconst (v := 0) hx hb dX12_log_26 (by decide +kernel) ?_
    exact j27 _ _ _ _ (lv_sub hl [0, 1, 2] rfl) hW hS hf
  refine lv_if_lt (tgt := 26) hx hb dX12_log_2 (by decide) (fun c38 => ?_) (fun c38 => ?_)
  · replace hf := hf.1 c38
    exact j26  _ _ _ (lv_sub hl [0, 1, 2] rfl) hW hS hf
  · replace hf := hf.2 c38
    refine lv_iload_n hx hb dX12_log_5 rfl (lv_at hl 1 rfl) ?_
    refine lv_aload_n hx hb dX12_log_6 rfl (lv_at hl 0 rfl) ?_
    obtain ⟨k39, hf⟩ := hf
    refine gm_getI (C := RX12) (T := TX12) (N := 68) (j := 1) hx hb hts inT_12 hown hK hW k39 (by decide) rfl (by decide) rfl (hts _ kw_1317) rfl dX12_log_7 ?_
    refine lv_icmp_gt (tgt := 26) hx hb dX12_log_10 (by decide) (fun c40 => ?_) (fun c40 => ?_)
    · replace hf := hf.1 c40
      exact j26  _ _ _ (lv_sub hl [0, 1, 2] rfl) hW hS hf
    · replace hf := hf.2 c40
      refine lv_iload_n hx hb dX12_log_13 rfl (lv_at hl 2 rfl) ?_
      refine lv_if_lt (tgt := 26) hx hb dX12_log_14 (by decide) (fun c41 => ?_) (fun c41 => ?_)
      · replace hf := hf.1 c41
        exact j26  _ _ _ (lv_sub hl [0, 1, 2] rfl) hW hS hf
      · replace hf := hf.2 c41
        refine lv_iload_n hx hb dX12_log_17 rfl (lv_at hl 2 rfl) ?_
        refine lv_iconst (v := 5) hx hb dX12_log_18 (by decide +kernel) ?_
        refine lv_icmp_gt (tgt := 26) hx hb dX12_log_19 (by decide) (fun c42 => ?_) (fun c42 => ?_)
        · replace hf := hf.1 c42
          exact j26  _ _ _ (lv_sub hl [0, 1, 2] rfl) hW hS hf
        · replace hf := hf.2 c42
          refine lv_iconst (v := 1) hx hb dX12_log_22 (by decide +kernel) ?_
          refine lv_goto (tgt := 27) hx hb dX12_log_23 (by decide) ?_
          exact j27 _ _ _ _ (lv_sub hl [0, 1, 2] rfl) hW hS hf

abbrev rm_X12_lastOffset : Room := { frames := 5, cells := 0, slots := 0, locals := 153 }
def L_X12_lastOffset_21 (Y : Ly) (v0 : Nat) (v1 : Int32) (Kn : Int64 → Mm → Prop) (x8 : Int64) (x9 : Int32) (M10 : Mm) (again21 : Int64 → Int32 → Mm → Prop) : Prop :=
  f_X12_countOf Y v0 v1 M10 (fun r12 M11 => ((r12 ≤ x9 → (Kn x8 M11)) ∧ (¬ (r12 ≤ x9) → (f_X12_firstTime Y v0 v1 M11 (fun r15 M14 => (f_X12_readRecord Y v0 r15 M14 (fun r17 M16 => (f_X12_base Y v0 v1 M16 (fun r19 M18 => (∀ x20 : Int64, x20 = r19 + (mJ M18 v0 48) → (∀ x21 : Int32, x21 = x9 + 1 → (again21 x20 x21 M18))))))))))))
def f_X12_lastOffset (Y : Ly) (v0 : Nat) (v1 : Int32) (M : Mm) (Kn : Int64 → Mm → Prop) : Prop :=
  yK Y v0 = 12 ∧ (f_X12_base Y v0 v1 M (fun r2 M1 => (f_X12_last Y v0 v1 M1 (fun r5 M4 => (∀ x6 : Int64, x6 = r2 + r5.toInt64 → (f_X12_readsBatch Y v0 v1 M4 (fun M7 => (∃ n, LOOP3 (L_X12_lastOffset_21 Y v0 v1 Kn) n x6 0 M7))))))))
set_option maxHeartbeats 4000000 in
set_option maxRecDepth 100000 in
theorem m_X12_lastOffset (l : Launch) (D : va_G) (cy : Cy) (tq sz : Nat) (Y : Ly) (v0 : Nat) (v1 : Int32) (M : Mm) (Kn : Int64 → Mm → Prop) : Met l yX12_lastOffset (Cond.code yX12_lastOffset cX12_lastOffset 6 (some .long) :: TT) rm_X12_lastOffset (PcG D cy tq [.ref v0, .int v1] sz Y M (f_X12_lastOffset Y v0 v1 M Kn)) (va_Ql Kn (BG D cy (Am Y sz) Y) (Am Y sz)) 0 0 (Am Y sz) := by
  refine Met.ofW (cc := cX12_lastOffset) (maxL := 6) (ret := (some .long)) (by decide) rfl ?_
  intro p e s m args below meth c s₁ B hml hv
  obtain ⟨hargs, hsz, hW, hK, hC, hf⟩ := hv
  subst hsz
  have hx := B.exec
  have hb := B.bytes
  have hr := B.returns
  have hts : ∀ w ∈ TT, w.before args s = true := fun w h => atoms_spec (ws := Cond.code yX12_lastOffset cX12_lastOffset 6 (some .long) :: TT) B.pre w (List.mem_cons_of_mem _ h)
  have hown : s.vm.findClass RX12 = some m.cls := findClass_of_methodNamed B.named
  have hlocks := B.notSynchronized
  replace hW := Wd_self (sz := s.heap.size) hW
  generalize hAe : Am Y s.heap.size = A at hW hC ⊢
  have hA : ∀ q : Nat, s.heap.size ≤ q → A q := fun q h => by rw [← hAe]; exact Or.inr h
  clear hAe
  have hS : va_S A s.heap s.heap [] := va_S.rf
  obtain ⟨ls, hE, hl⟩ := gm_entry m [.ref v0, .int v1] (n := 6) hargs (Nat.le_of_ble_eq_true rfl)
  rw [hE]
  have hl : lv_has ls 6 [(0, .ref v0), (1, .int v1)] := hl
  show W p l e rm_X12_lastOffset s m args below meth c s.heap [] 0 0 (MQ below (va_Ql Kn (BG D cy A Y) A) args s 0 0 A) (F0 m 0 ls [])
  unfold f_X12_lastOffset at hf
  refine lv_aload_n hx hb dX12_lastOffset_0 rfl (lv_at hl 0 rfl) ?_
  refine lv_iload_n hx hb dX12_lastOffset_1 rfl (lv_at hl 1 rfl) ?_
  obtain ⟨k3, hf⟩ := hf
  refine gm_cl (va_runV (As := [.int v1]) (rest := []) ⟨hx, hb, hml, hown, hts⟩ (m_X12_base l D cy tq _ Y _ _ _ _) (cwV 1 hts (good_V kw_1588 kw_1589 kw_1845 kw_12 kw_1590) rfl rfl rfl (by decide +kernel) ⟨Nat.le_of_ble_eq_true rfl, Nat.le_of_ble_eq_true rfl⟩) (gm_preV hK hW hC hS hA k3 (by decide) (q := (RX12, TX12, 68)) rfl rfl hf) rfl rfl hl.1 rfl (lv_room (Nat.le_of_ble_eq_true rfl)) dX12_lastOffset_2 ⟨Nat.le_of_ble_eq_true rfl, Nat.le_of_ble_eq_true rfl⟩) hW hS hA (fun r2 M1 H locs hW hS hf => ?_)
  refine lv_aload_n hx hb dX12_lastOffset_5 rfl (lv_at hl 0 rfl) ?_
  refine lv_iload_n hx hb dX12_lastOffset_6 rfl (lv_at hl 1 rfl) ?_
  refine gm_ci (va_runV (As := [.int v1]) (rest := [.long r2]) ⟨hx, hb, hml, hown, hts⟩ (m_X12_last l D cy tq _ Y _ _ _ _) (cwV 1 hts (good_V kw_1585 kw_1586 kw_1844 kw_12 kw_1587) rfl rfl rfl (by decide +kernel) ⟨Nat.le_of_ble_eq_true rfl, Nat.le_of_ble_eq_true rfl⟩) (gm_preV hK hW hC hS hA k3 (by decide) (q := (RX12, TX12, 68)) rfl rfl hf) rfl rfl hl.1 rfl (lv_room (Nat.le_of_ble_eq_true rfl)) dX12_lastOffset_7 ⟨Nat.le_of_ble_eq_true rfl, Nat.le_of_ble_eq_true rfl⟩) hW hS hA (fun r5 M4 H locs hW hS hf => ?_)
  refine lv_i2l hx hb dX12_lastOffset_10 rfl ?_
  refine lv_ladd hx hb dX12_lastOffset_11 ?_
  refine lv_topl (fun x6 ex6 => ?_)
  replace hf := hf x6 ex6
  refine lv_lstore_n (lv' := [(2, .long x6), (0, .ref v0), (1, .int v1)]) hx hb dX12_lastOffset_12 rfl hl (by decide) rfl (fun ls hl => ?_)
  refine lv_aload_n hx hb dX12_lastOffset_13 rfl (lv_at hl 1 rfl) ?_
  refine lv_iload_n hx hb dX12_lastOffset_14 rfl (lv_at hl 2 rfl) ?_
  refine gm_cv (va_runV (As := [.int v1]) (rest := []) ⟨hx, hb, hml, hown, hts⟩ (m_X12_readsBatch l D cy tq _ Y _ _ _ _) (cwV 1 hts (good_V kw_1633 kw_1634 kw_1853 kw_12 kw_1635) rfl rfl rfl (by decide +kernel) ⟨Nat.le_of_ble_eq_true rfl, Nat.le_of_ble_eq_true rfl⟩) (gm_preV hK hW hC hS hA k3 (by decide) (q := (RX12, TX12, 68)) rfl rfl hf) rfl rfl hl.1 rfl (lv_room (Nat.le_of_ble_eq_true rfl)) dX12_lastOffset_15 ⟨Nat.le_of_ble_eq_true rfl, Nat.le_of_ble_eq_true rfl⟩) hW hS hA (fun M7 H locs hW hS hf => ?_)
  refine lv_iconst (v := 0) hx hb dX12_lastOffset_18 (by decide +kernel) ?_
  refine lv_istore (lv' := [(4, .int 0), (2, .long x6), (0, .ref v0), (1, .int v1)]) hx hb dX12_lastOffset_19 hl (by decide) rfl (fun ls hl => ?_)
  obtain ⟨n21, hf⟩ := hf
  have lp21 : ∀ (n21 : Nat) (x8 : Int64) (x9 : Int32) (M10 : Mm) (H : Heap) (locs : List Loc) (ls : Array Slot), lv_has ls 6 [(0, .ref v0), (1, .int v1), (2, .long x8), (4, .int x9)] → Wd D cy A Y M10 H → va_S A s.heap H locs → LOOP3 (L_X12_lastOffset_21 Y v0 v1 Kn) n21 x8 x9 M10 → W p l e rm_X12_lastOffset s m args below meth c H locs 0 0 (MQ below (va_Ql Kn (BG D cy A Y) A) args s 0 0 A) (F0 m 21 ls []) := by
    intro n21
    induction n21 with
    | zero => intro x8 x9 M10 H locs ls hl hW hS hf; exact hf.elim
    | succ n21 ih21 =>
      intro x8 x9 M10 H locs ls hl hW hS hf
      replace hf : L_X12_lastOffset_21 Y v0 v1 Kn x8 x9 M10 (LOOP3 (L_X12_lastOffset_21 Y v0 v1 Kn) n21) := hf
      unfold L_X12_lastOffset_21 at hf
      refine lv_iload hx hb dX12_lastOffset_21 (lv_at hl 3 rfl) ?_
      refine lv_aload_n hx hb dX12_lastOffset_23 rfl (lv_at hl 0 rfl) ?_
      refine lv_iload_n hx hb dX12_lastOffset_24 rfl (lv_at hl 1 rfl) ?_
      refine gm_ci (va_runV (As := [.int v1]) (rest := [.int x9]) ⟨hx, hb, hml, hown, hts⟩ (m_X12_countOf l D cy tq _ Y _ _ _ _) (cwV 1 hts (good_V kw_1615 kw_1616 kw_1851 kw_12 kw_1617) rfl rfl rfl (by decide +kernel) ⟨Nat.le_of_ble_eq_true rfl, Nat.le_of_ble_eq_true rfl⟩) (gm_preV hK hW hC hS hA k3 (by decide) (q := (RX12, TX12, 68)) rfl rfl hf) rfl rfl hl.1 rfl (lv_room (Nat.le_of_ble_eq_true rfl)) dX12_lastOffset_25 ⟨Nat.le_of_ble_eq_true rfl, Nat.le_of_ble_eq_true rfl⟩) hW hS hA (fun r12 M11 H locs hW hS hf => ?_)
      refine lv_icmp_ge (tgt := 59) hx hb dX12_lastOffset_28 (by decide) (fun c13 => ?_) (fun c13 => ?_)
      · replace hf := hf.1 c13
        refine lv_lload_n hx hb dX12_lastOffset_59 rfl (lv_at hl 2 rfl) ?_
        exact gm_lret hx hb hr hlocks hW hS hf dX12_lastOffset_60
      · replace hf := hf.2 c13
        refine lv_aload_n hx hb dX12_lastOffset_31 rfl (lv_at hl 0 rfl) ?_
        refine lv_aload_n hx hb dX12_lastOffset_32 rfl (lv_at hl 0 rfl) ?_
        refine lv_iload_n hx hb dX12_lastOffset_33 rfl (lv_at hl 1 rfl) ?_
        refine gm_cl (va_runV (As := [.int v1]) (rest := [.ref v0]) ⟨hx, hb, hml, hown, hts⟩ (m_X12_firstTime l D cy tq _ Y _ _ _ _) (cwV 1 hts (good_V kw_1636 kw_1637 kw_1854 kw_12 kw_1638) rfl rfl rfl (by decide +kernel) ⟨Nat.le_of_ble_eq_true rfl, Nat.le_of_ble_eq_true rfl⟩) (gm_preV hK hW hC hS hA k3 (by decide) (q := (RX12, TX12, 68)) rfl rfl hf) rfl rfl hl.1 rfl (lv_room (Nat.le_of_ble_eq_true rfl)) dX12_lastOffset_34 ⟨Nat.le_of_ble_eq_true rfl, Nat.le_of_ble_eq_true rfl⟩) hW hS hA (fun r15 M14 H locs hW hS hf => ?_)
        refine gm_ci (va_runV (As := [.long r15]) (rest := []) ⟨hx, hb, hml, hown, hts⟩ (m_X12_readRecord l D cy tq _ Y _ _ _ _) (cwV 1 hts (good_V kw_1539 kw_1540 kw_1833 kw_12 kw_1541) rfl rfl rfl (by decide +kernel) ⟨Nat.le_of_ble_eq_true rfl, Nat.le_of_ble_eq_true rfl⟩) (gm_preV hK hW hC hS hA k3 (by decide) (q := (RX12, TX12, 68)) rfl rfl hf) rfl rfl hl.1 rfl (lv_room (Nat.le_of_ble_eq_true rfl)) dX12_lastOffset_37 ⟨Nat.le_of_ble_eq_true rfl, Nat.le_of_ble_eq_true rfl⟩) hW hS hA (fun r17 M16 H locs hW hS hf => ?_)
        refine lv_istore (lv' := [(5, .int r17), (0, .ref v0), (1, .int v1), (2, .long x8), (4, .int x9)]) hx hb dX12_lastOffset_40 hl (by decide) rfl (fun ls hl => ?_)
        refine lv_aload_n hx hb dX12_lastOffset_42 rfl (lv_at hl 1 rfl) ?_
        refine lv_iload_n hx hb dX12_lastOffset_43 rfl (lv_at hl 2 rfl) ?_
        refine gm_cl (va_runV (As := [.int v1]) (rest := []) ⟨hx, hb, hml, hown, hts⟩ (m_X12_base l D cy tq _ Y _ _ _ _) (cwV 1 hts (good_V kw_1588 kw_1589 kw_1845 kw_12 kw_1590) rfl rfl rfl (by decide +kernel) ⟨Nat.le_of_ble_eq_true rfl, Nat.le_of_ble_eq_true rfl⟩) (gm_preV hK hW hC hS hA k3 (by decide) (q := (RX12, TX12, 68)) rfl rfl hf) rfl rfl hl.1 rfl (lv_room (Nat.le_of_ble_eq_true rfl)) dX12_lastOffset_44 ⟨Nat.le_of_ble_eq_true rfl, Nat.le_of_ble_eq_true rfl⟩) hW hS hA (fun r19 M18 H locs hW hS hf => ?_)
        refine lv_aload_n hx hb dX12_lastOffset_47 rfl (lv_at hl 1 rfl) ?_
        refine gm_getJ (C := RX12) (T := TX12) (N := 68) (j := 48) hx hb hts inT_12 hown hK hW k3 (by decide) rfl (by decide) rfl (hts _ kw_1364) rfl dX12_lastOffset_48 ?_
        refine lv_ladd hx hb dX12_lastOffset_51 ?_
        refine lv_topl (fun x20 ex20 => ?_)
        replace hf := hf x20 ex20
        refine lv_lstore_n (lv' := [(2, .long x20), (5, .int r17), (0, .ref v0), (1, .int v1), (4, .int x9)]) hx hb dX12_lastOffset_52 rfl hl (by decide) rfl (fun ls hl => ?_)
        obtain ⟨x21, ex21⟩ : ∃ y : Int32, y = x9 + 1 := ⟨_, rfl⟩
        replace hf := hf x21 ex21
        refine lv_iinc (v := x21) (lv' := [(4, .int x21), (2, .long x20), (5, .int r17), (0, .ref v0), (1, .int v1)]) hx hb dX12_lastOffset_53 hl (k := 4) rfl (by rw [ex21]; rfl) (by decide) rfl (fun ls hl => ?_)
        refine lv_goto (tgt := 21) hx hb dX12_lastOffset_56 (by decide) ?_
        exact ih21 _ _ _ _ _ _ (lv_sub hl [3, 4, 1, 0] rfl) hW hS hf
  exact lp21 n21 _ _ _ _ _ _ (lv_sub hl [2, 3, 1, 0] rfl) hW hS hf

abbrev rm_X12_fetch : Room := { frames := 6, cells := 0, slots := 0, locals := 178 }
def f_X12_fetch_60 (Y : Ly) (Kn : Int32 → Mm → Prop) (M2 : Mm) : Prop :=
  Kn (-12) M2
def f_X12_fetch_232 (Y : Ly) (v0 : Nat) (Kn : Int32 → Mm → Prop) (M18 : Mm) : Prop :=
  Kn (mI M18 v0 33) M18
def f_X12_fetch_226 (Y : Ly) (x17 : Int32) (again77 : Int32 → Int32 → Int32 → Mm → Prop) (x24 : Int32) (x25 : Int32) (M26 : Mm) : Prop :=
  ∀ x27 : Int32, x27 = x17 + 1 → (again77 x24 x25 x27 M26)
def L_X12_fetch_164 (Y : Ly) (v0 : Nat) (x17 : Int32) (again77 : Int32 → Int32 → Int32 → Mm → Prop) (y29 : Int32) (y31 : Int32) (x32 : Int32) (M33 : Mm) (again164 : Int32 → Mm → Prop) : Prop :=
  ∃ b34 : Nat, mR M33 v0 21 = some b34 ∧ (yK Y b34 = 101 ∧ (vp_in x17 (yN Y b34) ∧ (((mI M33 b34 x17.toNatClampNeg) ≤ x32 → (f_X12_fetch_226 Y x17 again77 y29 y31 M33)) ∧ (¬ ((mI M33 b34 x17.toNatClampNeg) ≤ x32) → ((y29 = 0 → (f_X12_fetch_226 Y x17 again77 y29 y31 M33)) ∧ (¬ (y29 = 0) → ((y31 = 0 → (f_X12_fetch_226 Y x17 again77 y29 y31 M33)) ∧ (¬ (y31 = 0) → (∃ b40 : Nat, mR M33 v0 32 = some b40 ∧ (∃ b41 : Nat, mR M33 v0 23 = some b41 ∧ (∃ b42 : Nat, mR M33 v0 20 = some b42 ∧ (yK Y b42 = 101 ∧ (vp_in x17 (yN Y b42) ∧ (yK Y b41 = 101 ∧ (vp_in ((mI M33 b42 x17.toNatClampNeg) + x32) (yN Y b41) ∧ (yK Y b40 = 101 ∧ (vp_in (mI M33 v0 33) (yN Y b40) ∧ (∀ M49 : Mm, M49 = sI M33 b40 (m1 (mI M33 b40) (mI M33 v0 33).toNatClampNeg (mI M33 b41 ((mI M33 b42 x17.toNatClampNeg) + x32).toNatClampNeg)) → (∀ M50 : Mm, M50 = sI M49 v0 (m1 (mI M49 v0) 33 ((mI M49 v0 33) + 1)) → (∀ x51 : Int32, x51 = x32 + 1 → (again164 x51 M50)))))))))))))))))))))
def f_X12_fetch_159 (Y : Ly) (v0 : Nat) (x17 : Int32) (again77 : Int32 → Int32 → Int32 → Mm → Prop) (y29 : Int32) (M30 : Mm) (y31 : Int32) : Prop :=
  ∃ n, LOOP2 (L_X12_fetch_164 Y v0 x17 again77 y29 y31) n 0 M30
def f_X12_fetch_154 (Y : Ly) (v0 : Nat) (x17 : Int32) (again77 : Int32 → Int32 → Int32 → Mm → Prop) (y29 : Int32) (M30 : Mm) : Prop :=
  f_X12_fetch_159 Y v0 x17 again77 y29 M30 1
def f_X12_fetch_123 (Y : Ly) (v0 : Nat) (v4 : Int32) (x17 : Int32) (again77 : Int32 → Int32 → Int32 → Mm → Prop) (y29 : Int32) (M30 : Mm) : Prop :=
  (y29 = 0 → (f_X12_fetch_154 Y v0 x17 again77 y29 M30)) ∧ (¬ (y29 = 0) → (((mI M30 v0 33) = 0 → (f_X12_fetch_154 Y v0 x17 again77 y29 M30)) ∧ (¬ ((mI M30 v0 33) = 0) → (∃ b54 : Nat, mR M30 v0 21 = some b54 ∧ (yK Y b54 = 101 ∧ (vp_in x17 (yN Y b54) ∧ ((v4 < ((mI M30 v0 33) + (mI M30 b54 x17.toNatClampNeg)) → (f_X12_fetch_159 Y v0 x17 again77 y29 M30 0)) ∧ (¬ (v4 < ((mI M30 v0 33) + (mI M30 b54 x17.toNatClampNeg))) → (f_X12_fetch_154 Y v0 x17 again77 y29 M30)))))))))
def f_X12_fetch_118 (Y : Ly) (v0 : Nat) (v4 : Int32) (x17 : Int32) (again77 : Int32 → Int32 → Int32 → Mm → Prop) (M58 : Mm) : Prop :=
  f_X12_fetch_123 Y v0 v4 x17 again77 1 M58
def L_X12_fetch_77 (Y : Ly) (v0 : Nat) (v1 : Int32) (v2 : Int64) (v4 : Int32) (Kn : Int32 → Mm → Prop) (x15 : Int32) (x16 : Int32) (x17 : Int32) (M18 : Mm) (again77 : Int32 → Int32 → Int32 → Mm → Prop) : Prop :=
  ((mI M18 v0 18) ≤ x17 → (f_X12_fetch_232 Y v0 Kn M18)) ∧ (¬ ((mI M18 v0 18) ≤ x17) → ((x16 = 0 → (f_X12_fetch_232 Y v0 Kn M18)) ∧ (¬ (x16 = 0) → (∃ b21 : Nat, mR M18 v0 19 = some b21 ∧ (yK Y b21 = 101 ∧ (vp_in x17 (yN Y b21) ∧ ((¬ (mI M18 b21 x17.toNatClampNeg) = v1 → (f_X12_fetch_226 Y x17 again77 x15 x16 M18)) ∧ ((mI M18 b21 x17.toNatClampNeg) = v1 → ((¬ x15 = 0 → (f_X12_fetch_118 Y v0 v4 x17 again77 M18)) ∧ (x15 = 0 → (f_X12_lastOffset Y v0 x17 M18 (fun r61 M60 => ((r61 < v2 → (f_X12_fetch_123 Y v0 v4 x17 again77 0 M60)) ∧ (¬ (r61 < v2) → (f_X12_fetch_118 Y v0 v4 x17 again77 M60)))))))))))))))
def f_X12_fetch_30 (Y : Ly) (v0 : Nat) (v1 : Int32) (v2 : Int64) (v4 : Int32) (M : Mm) (Kn : Int32 → Mm → Prop) (y1 : Int32) : Prop :=
  yK Y v0 = 12 ∧ (f_X12_goes Y v0 y1 M (fun r3 M2 => ((¬ r3 = 0 → (∃ b6 : Nat, mR M2 v0 26 = some b6 ∧ (yK Y b6 = 102 ∧ (vp_in v1 (yN Y b6) ∧ ((v2 < (mJ M2 b6 v1.toNatClampNeg) → (f_X12_fetch_60 Y Kn M2)) ∧ (¬ (v2 < (mJ M2 b6 v1.toNatClampNeg)) → (∃ b10 : Nat, mR M2 v0 27 = some b10 ∧ (yK Y b10 = 102 ∧ (vp_in v1 (yN Y b10) ∧ ((v2 ≤ (mJ M2 b10 v1.toNatClampNeg) → (∀ M14 : Mm, M14 = sI M2 v0 (m1 (mI M2 v0) 33 0) → (∃ n, LOOP4 (L_X12_fetch_77 Y v0 v1 v2 v4 Kn) n 0 1 0 M14))) ∧ (¬ (v2 ≤ (mJ M2 b10 v1.toNatClampNeg)) → (f_X12_fetch_60 Y Kn M2)))))))))))) ∧ (r3 = 0 → (Kn 0 M2)))))
def f_X12_fetch_29 (Y : Ly) (v0 : Nat) (v1 : Int32) (v2 : Int64) (v4 : Int32) (M : Mm) (Kn : Int32 → Mm → Prop) : Prop :=
  f_X12_fetch_30 Y v0 v1 v2 v4 M Kn 0
def f_X12_fetch (Y : Ly) (v0 : Nat) (v1 : Int32) (v2 : Int64) (v4 : Int32) (M : Mm) (Kn : Int32 → Mm → Prop) : Prop :=
  (v1 < 0 → (f_X12_fetch_29 Y v0 v1 v2 v4 M Kn)) ∧ (¬ (v1 < 0) → (yK Y v0 = 12 ∧ (((mI M v0 1) < v1 → (f_X12_fetch_29 Y v0 v1 v2 v4 M Kn)) ∧ (¬ ((mI M v0 1) < v1) → ((v4 < 0 → (f_X12_fetch_29 Y v0 v1 v2 v4 M Kn)) ∧ (¬ (v4 < 0) → ((32768 < v4 → (f_X12_fetch_29 Y v0 v1 v2 v4 M Kn)) ∧ (¬ (32768 < v4) → (f_X12_fetch_30 Y v0 v1 v2 v4 M Kn 1)))))))))
set_option maxHeartbeats 4000000 in
set_option maxRecDepth 100000 in
theorem m_X12_fetch (l : Launch) (D : va_G) (cy : Cy) (tq sz : Nat) (Y : Ly) (v0 : Nat) (v1 : Int32) (v2 : Int64) (v4 : Int32) (M : Mm) (Kn : Int32 → Mm → Prop) : Met l yX12_fetch (Cond.code yX12_fetch cX12_fetch 9 (some .int) :: TT) rm_X12_fetch (PcG D cy tq [.ref v0, .int v1, .long v2, .int v4] sz Y M (f_X12_fetch Y v0 v1 v2 v4 M Kn)) (va_Qi Kn (BG D cy (Am Y sz) Y) (Am Y sz)) 0 0 (Am Y sz) := by
  refine Met.ofW (cc := cX12_fetch) (maxL := 9) (ret := (some .int)) (by decide) rfl ?_
  intro p e s m args below meth c s₁ B hml hv
  obtain ⟨hargs, hsz, hW, hK, hC, hf⟩ := hv
  subst hsz
  have hx := B.exec
  have hb := B.bytes
  have hr := B.returns
  have hts : ∀ w ∈ TT, w.before args s = true := fun w h => atoms_spec (ws := Cond.code yX12_fetch cX12_fetch 9 (some .int) :: TT) B.pre w (List.mem_cons_of_mem _ h)
  have hown : s.vm.findClass RX12 = some m.cls := findClass_of_methodNamed B.named
  have hlocks := B.notSynchronized
  replace hW := Wd_self (sz := s.heap.size) hW
  generalize hAe : Am Y s.heap.size = A at hW hC ⊢
  have hA : ∀ q : Nat, s.heap.size ≤ q → A q := fun q h => by rw [← hAe]; exact Or.inr h
  clear hAe
  have hS : va_S A s.heap s.heap [] := va_S.rf
  obtain ⟨ls, hE, hl⟩ := gm_entry m [.ref v0, .int v1, .long v2, .int v4] (n := 9) hargs (Nat.le_of_ble_eq_true rfl)
  rw [hE]
  have hl : lv_has ls 9 [(0, .ref v0), (1, .int v1), (2, .long v2), (4, .int v4)] := hl
  show W p l e rm_X12_fetch s m args below meth c s.heap [] 0 0 (MQ below (va_Qi Kn (BG D cy A Y) A) args s 0 0 A) (F0 m 0 ls [])
  unfold f_X12_fetch at hf
  refine lv_aload_n hx hb dX12_fetch_0 rfl (lv_at hl 0 rfl) ?_
  refine lv_iload_n hx hb dX12_fetch_1 rfl (lv_at hl 1 rfl) ?_
  have j30 : ∀ (y1 : Int32) (H : Heap) (locs : List Loc) (ls : Array Slot), lv_has ls 9 [(0, .ref v0), (1, .int v1), (2, .long v2), (4, .int v4)] → Wd D cy A Y M H → va_S A s.heap H locs → f_X12_fetch_30 Y v0 v1 v2 v4 M Kn y1 → W p l e rm_X12_fetch s m args below meth c H locs 0 0 (MQ below (va_Qi Kn (BG D cy A Y) A) args s 0 0 A) (F0 m 30 ls [.int y1, .ref v0]) := by
    intro y1 H locs ls hl hW hS hf
    unfold f_X12_fetch_30 at hf
    obtain ⟨k4, hf⟩ := hf
    refine gm_ci (va_runV (As := [.int y1]) (rest := []) ⟨hx, hb, hml, hown, hts⟩ (m_X12_goes l D cy tq _ Y _ _ _ _) (cwV 1 hts (good_V kw_1564 kw_1565 kw_1838 kw_12 kw_1566) rfl rfl rfl (by decide +kernel) ⟨Nat.le_of_ble_eq_true rfl, Nat.le_of_ble_eq_true rfl⟩) (gm_preV hK hW hC hS hA k4 (by decide) (q := (RX12, TX12, 68)) rfl rfl hf) rfl rfl hl.1 rfl (lv_room (Nat.le_of_ble_eq_true rfl)) dX12_fetch_30 ⟨Nat.le_of_ble_eq_true rfl, Nat.le_of_ble_eq_true rfl⟩) hW hS hA (fun r3 M2 H locs hW hS hf => ?_)
    refine lv_if_ne (tgt := 38) hx hb dX12_fetch_33 (by decide) (fun c5 => ?_) (fun c5 => ?_)
    · replace hf := hf.1 c5
      refine lv_lload_n hx hb dX12_fetch_38 rfl (lv_at hl 2 rfl) ?_
      refine lv_aload_n hx hb dX12_fetch_39 rfl (lv_at hl 0 rfl) ?_
      obtain ⟨b6, hb6, hf⟩ := hf
      refine gm_getR (C := RX12) (T := TX12) (N := 68) (j := 26) hx hb hts inT_12 hown hK hW k4 (by decide) rfl (by decide) rfl (hts _ kw_1342) rfl dX12_fetch_40 hb6 ?_
      refine lv_iload_n hx hb dX12_fetch_43 rfl (lv_at hl 1 rfl) ?_
      obtain ⟨k7, hf⟩ := hf
      obtain ⟨h8, hf⟩ := hf
      refine gm_lald hx hb hK hW k7 h8 dX12_fetch_44 ?_
      refine W.lcmp hx hb dX12_fetch_45 ?_
      have j60 : ∀ (H : Heap) (locs : List Loc) (ls : Array Slot), lv_has ls 9 [] → Wd D cy A Y M2 H → va_S A s.heap H locs → f_X12_fetch_60 Y Kn M2  → W p l e rm_X12_fetch s m args below meth c H locs 0 0 (MQ below (va_Qi Kn (BG D cy A Y) A) args s 0 0 A) (F0 m 60 ls []) := by
        intro  H locs ls hl hW hS hf
        unfold f_X12_fetch_60 at hf
        refine lv_bipush (v := -12) hx hb dX12_fetch_60 (by decide +kernel) ?_
        exact gm_iret hx hb hr hlocks hW hS hf dX12_fetch_62
      refine lv_if_lt (tgt := 60) hx hb dX12_fetch_46 (by decide) (fun c9 => ?_) (fun c9 => ?_)
      · replace hf := hf.1 (lg_lt.mp c9)
        exact j60  _ _ _ (lv_sub hl [] rfl) hW hS hf
      · replace hf := hf.2 (fun z => c9 (lg_lt.mpr z))
        refine lv_lload_n hx hb dX12_fetch_49 rfl (lv_at hl 2 rfl) ?_
        refine lv_aload_n hx hb dX12_fetch_50 rfl (lv_at hl 0 rfl) ?_
        obtain ⟨b10, hb10, hf⟩ := hf
        refine gm_getR (C := RX12) (T := TX12) (N := 68) (j := 27) hx hb hts inT_12 hown hK hW k4 (by decide) rfl (by decide) rfl (hts _ kw_1343) rfl dX12_fetch_51 hb10 ?_
        refine lv_iload_n hx hb dX12_fetch_54 rfl (lv_at hl 1 rfl) ?_
        obtain ⟨k11, hf⟩ := hf
        obtain ⟨h12, hf⟩ := hf
        refine gm_lald hx hb hK hW k11 h12 dX12_fetch_55 ?_
        refine W.lcmp hx hb dX12_fetch_56 ?_
        refine lv_if_le (tgt := 63) hx hb dX12_fetch_57 (by decide) (fun c13 => ?_) (fun c13 => ?_)
        · replace hf := hf.1 (lg_le.mp c13)
          refine lv_aload_n hx hb dX12_fetch_63 rfl (lv_at hl 0 rfl) ?_
          refine lv_iconst (v := 0) hx hb dX12_fetch_64 (by decide +kernel) ?_
          refine gm_putI (C := RX12) (T := TX12) (N := 68) (j := 33) hx hb hts inT_12 tyX12 tyX12_ok nmX12 hown hK hW hS k4 (by decide) rfl (by decide) rfl (hts _ kw_1349) rfl rfl rfl rfl dX12_fetch_65 (fun H locs M14 eM14 hW hS => ?_)
          replace hf := hf M14 eM14
          refine lv_iconst (v := 0) hx hb dX12_fetch_68 (by decide +kernel) ?_
          refine lv_istore (lv' := [(5, .int 0), (0, .ref v0), (1, .int v1), (2, .long v2), (4, .int v4)]) hx hb dX12_fetch_69 hl (by decide) rfl (fun ls hl => ?_)
          refine lv_iconst (v := 1) hx hb dX12_fetch_71 (by decide +kernel) ?_
          refine lv_istore (lv' := [(6, .int 1), (5, .int 0), (0, .ref v0), (1, .int v1), (2, .long v2), (4, .int v4)]) hx hb dX12_fetch_72 hl (by decide) rfl (fun ls hl => ?_)
          refine lv_iconst (v := 0) hx hb dX12_fetch_74 (by decide +kernel) ?_
          refine lv_istore (lv' := [(7, .int 0), (6, .int 1), (5, .int 0), (0, .ref v0), (1, .int v1), (2, .long v2), (4, .int v4)]) hx hb dX12_fetch_75 hl (by decide) rfl (fun ls hl => ?_)
          obtain ⟨n77, hf⟩ := hf
          have lp77 : ∀ (n77 : Nat) (x15 : Int32) (x16 : Int32) (x17 : Int32) (M18 : Mm) (H : Heap) (locs : List Loc) (ls : Array Slot), lv_has ls 9 [(0, .ref v0), (1, .int v1), (2, .long v2), (4, .int v4), (5, .int x15), (6, .int x16), (7, .int x17)] → Wd D cy A Y M18 H → va_S A s.heap H locs → LOOP4 (L_X12_fetch_77 Y v0 v1 v2 v4 Kn) n77 x15 x16 x17 M18 → W p l e rm_X12_fetch s m args below meth c H locs 0 0 (MQ below (va_Qi Kn (BG D cy A Y) A) args s 0 0 A) (F0 m 77 ls []) := by
            intro n77
            induction n77 with
            | zero => intro x15 x16 x17 M18 H locs ls hl hW hS hf; exact hf.elim
            | succ n77 ih77 =>
              intro x15 x16 x17 M18 H locs ls hl hW hS hf
              replace hf : L_X12_fetch_77 Y v0 v1 v2 v4 Kn x15 x16 x17 M18 (LOOP4 (L_X12_fetch_77 Y v0 v1 v2 v4 Kn) n77) := hf
              unfold L_X12_fetch_77 at hf
              refine lv_iload hx hb dX12_fetch_77 (lv_at hl 6 rfl) ?_
              refine lv_aload_n hx hb dX12_fetch_79 rfl (lv_at hl 0 rfl) ?_
              refine gm_getI (C := RX12) (T := TX12) (N := 68) (j := 18) hx hb hts inT_12 hown hK hW k4 (by decide) rfl (by decide) rfl (hts _ kw_1334) rfl dX12_fetch_80 ?_
              have j232 : ∀ (H : Heap) (locs : List Loc) (ls : Array Slot), lv_has ls 9 [(0, .ref v0)] → Wd D cy A Y M18 H → va_S A s.heap H locs → f_X12_fetch_232 Y v0 Kn M18  → W p l e rm_X12_fetch s m args below meth c H locs 0 0 (MQ below (va_Qi Kn (BG D cy A Y) A) args s 0 0 A) (F0 m 232 ls []) := by
                intro  H locs ls hl hW hS hf
                unfold f_X12_fetch_232 at hf
                refine lv_aload_n hx hb dX12_fetch_232 rfl (lv_at hl 0 rfl) ?_
                refine gm_getI (C := RX12) (T := TX12) (N := 68) (j := 33) hx hb hts inT_12 hown hK hW k4 (by decide) rfl (by decide) rfl (hts _ kw_1349) rfl dX12_fetch_233 ?_
                exact gm_iret hx hb hr hlocks hW hS hf dX12_fetch_236
              refine lv_icmp_ge (tgt := 232) hx hb dX12_fetch_83 (by decide) (fun c19 => ?_) (fun c19 => ?_)
              · replace hf := hf.1 c19
                exact j232  _ _ _ (lv_sub hl [0] rfl) hW hS hf
              · replace hf := hf.2 c19
                refine lv_iload hx hb dX12_fetch_86 (lv_at hl 5 rfl) ?_
                refine lv_if_eq (tgt := 232) hx hb dX12_fetch_88 (by decide) (fun c20 => ?_) (fun c20 => ?_)
                · replace hf := hf.1 c20
                  exact j232  _ _ _ (lv_sub hl [0] rfl) hW hS hf
                · replace hf := hf.2 c20
                  refine lv_aload_n hx hb dX12_fetch_91 rfl (lv_at hl 0 rfl) ?_
                  obtain ⟨b21, hb21, hf⟩ := hf
                  refine gm_getR (C := RX12) (T := TX12) (N := 68) (j := 19) hx hb hts inT_12 hown hK hW k4 (by decide) rfl (by decide) rfl (hts _ kw_1335) rfl dX12_fetch_92 hb21 ?_
                  refine lv_iload hx hb dX12_fetch_95 (lv_at hl 6 rfl) ?_
                  obtain ⟨k22, hf⟩ := hf
                  obtain ⟨h23, hf⟩ := hf
                  refine gm_iald hx hb hK hW k22 h23 dX12_fetch_97 ?_
                  refine lv_iload_n hx hb dX12_fetch_98 rfl (lv_at hl 1 rfl) ?_
                  have j226 : ∀ (x24 : Int32) (x25 : Int32) (M26 : Mm) (H : Heap) (locs : List Loc) (ls : Array Slot), lv_has ls 9 [(0, .ref v0), (1, .int v1), (2, .long v2), (4, .int v4), (5, .int x24), (6, .int x25), (7, .int x17)] → Wd D cy A Y M26 H → va_S A s.heap H locs → f_X12_fetch_226 Y x17 (LOOP4 (L_X12_fetch_77 Y v0 v1 v2 v4 Kn) n77) x24 x25 M26 → W p l e rm_X12_fetch s m args below meth c H locs 0 0 (MQ below (va_Qi Kn (BG D cy A Y) A) args s 0 0 A) (F0 m 226 ls []) := by
                    intro x24 x25 M26 H locs ls hl hW hS hf
                    unfold f_X12_fetch_226 at hf
                    obtain ⟨x27, ex27⟩ : ∃ y : Int32, y = x17 + 1 := ⟨_, rfl⟩
                    replace hf := hf x27 ex27
                    refine lv_iinc (v := x27) (lv' := [(7, .int x27), (0, .ref v0), (1, .int v1), (2, .long v2), (4, .int v4), (5, .int x24), (6, .int x25)]) hx hb dX12_fetch_226 hl (k := 6) rfl (by rw [ex27]; rfl) (by decide) rfl (fun ls hl => ?_)
                    refine lv_goto (tgt := 77) hx hb dX12_fetch_229 (by decide) ?_
                    exact ih77 _ _ _ _ _ _ _ (lv_sub hl [1, 2, 3, 4, 5, 6, 0] rfl) hW hS hf
                  refine lv_icmp_ne (tgt := 226) hx hb dX12_fetch_99 (by decide) (fun c28 => ?_) (fun c28 => ?_)
                  · replace hf := hf.1 c28
                    exact j226 _ _ _ _ _ _ (lv_sub hl [0, 1, 2, 3, 4, 5, 6] rfl) hW hS hf
                  · replace hf := hf.2 c28
                    refine lv_iload hx hb dX12_fetch_102 (lv_at hl 4 rfl) ?_
                    have j123 : ∀ (y29 : Int32) (M30 : Mm) (H : Heap) (locs : List Loc) (ls : Array Slot), lv_has ls 9 [(0, .ref v0), (1, .int v1), (2, .long v2), (4, .int v4), (7, .int x17)] → Wd D cy A Y M30 H → va_S A s.heap H locs → f_X12_fetch_123 Y v0 v4 x17 (LOOP4 (L_X12_fetch_77 Y v0 v1 v2 v4 Kn) n77) y29 M30 → W p l e rm_X12_fetch s m args below meth c H locs 0 0 (MQ below (va_Qi Kn (BG D cy A Y) A) args s 0 0 A) (F0 m 123 ls [.int y29]) := by
                      intro y29 M30 H locs ls hl hW hS hf
                      unfold f_X12_fetch_123 at hf
                      refine lv_istore (lv' := [(5, .int y29), (0, .ref v0), (1, .int v1), (2, .long v2), (4, .int v4), (7, .int x17)]) hx hb dX12_fetch_123 hl (by decide) rfl (fun ls hl => ?_)
                      refine lv_iload hx hb dX12_fetch_125 (lv_at hl 0 rfl) ?_
                      have j159 : ∀ (y31 : Int32) (H : Heap) (locs : List Loc) (ls : Array Slot), lv_has ls 9 [(0, .ref v0), (1, .int v1), (2, .long v2), (4, .int v4), (5, .int y29), (7, .int x17)] → Wd D cy A Y M30 H → va_S A s.heap H locs → f_X12_fetch_159 Y v0 x17 (LOOP4 (L_X12_fetch_77 Y v0 v1 v2 v4 Kn) n77) y29 M30 y31 → W p l e rm_X12_fetch s m args below meth c H locs 0 0 (MQ below (va_Qi Kn (BG D cy A Y) A) args s 0 0 A) (F0 m 159 ls [.int y31]) := by
                        intro y31 H locs ls hl hW hS hf
                        unfold f_X12_fetch_159 at hf
                        refine lv_istore (lv' := [(6, .int y31), (0, .ref v0), (1, .int v1), (2, .long v2), (4, .int v4), (5, .int y29), (7, .int x17)]) hx hb dX12_fetch_159 hl (by decide) rfl (fun ls hl => ?_)
                        refine lv_iconst (v := 0) hx hb dX12_fetch_161 (by decide +kernel) ?_
                        refine lv_istore (lv' := [(8, .int 0), (6, .int y31), (0, .ref v0), (1, .int v1), (2, .long v2), (4, .int v4), (5, .int y29), (7, .int x17)]) hx hb dX12_fetch_162 hl (by decide) rfl (fun ls hl => ?_)
                        obtain ⟨n164, hf⟩ := hf
                        have lp164 : ∀ (n164 : Nat) (x32 : Int32) (M33 : Mm) (H : Heap) (locs : List Loc) (ls : Array Slot), lv_has ls 9 [(0, .ref v0), (1, .int v1), (2, .long v2), (4, .int v4), (5, .int y29), (6, .int y31), (7, .int x17), (8, .int x32)] → Wd D cy A Y M33 H → va_S A s.heap H locs → LOOP2 (L_X12_fetch_164 Y v0 x17 (LOOP4 (L_X12_fetch_77 Y v0 v1 v2 v4 Kn) n77) y29 y31) n164 x32 M33 → W p l e rm_X12_fetch s m args below meth c H locs 0 0 (MQ below (va_Qi Kn (BG D cy A Y) A) args s 0 0 A) (F0 m 164 ls []) := by
                          intro n164
                          induction n164 with
                          | zero => intro x32 M33 H locs ls hl hW hS hf; exact hf.elim
                          | succ n164 ih164 =>
                            intro x32 M33 H locs ls hl hW hS hf
                            replace hf : L_X12_fetch_164 Y v0 x17 (LOOP4 (L_X12_fetch_77 Y v0 v1 v2 v4 Kn) n77) y29 y31 x32 M33 (LOOP2 (L_X12_fetch_164 Y v0 x17 (LOOP4 (L_X12_fetch_77 Y v0 v1 v2 v4 Kn) n77) y29 y31) n164) := hf
                            unfold L_X12_fetch_164 at hf
                            refine lv_iload hx hb dX12_fetch_164 (lv_at hl 7 rfl) ?_
                            refine lv_aload_n hx hb dX12_fetch_166 rfl (lv_at hl 0 rfl) ?_
                            obtain ⟨b34, hb34, hf⟩ := hf
                            refine gm_getR (C := RX12) (T := TX12) (N := 68) (j := 21) hx hb hts inT_12 hown hK hW k4 (by decide) rfl (by decide) rfl (hts _ kw_1337) rfl dX12_fetch_167 hb34 ?_
                            refine lv_iload hx hb dX12_fetch_170 (lv_at hl 6 rfl) ?_
                            obtain ⟨k35, hf⟩ := hf
                            obtain ⟨h36, hf⟩ := hf
                            refine gm_iald hx hb hK hW k35 h36 dX12_fetch_172 ?_
                            refine lv_icmp_ge (tgt := 226) hx hb dX12_fetch_173 (by decide) (fun c37 => ?_) (fun c37 => ?_)
                            · replace hf := hf.1 c37
                              exact j226 _ _ _ _ _ _ (lv_sub hl [0, 1, 2, 3, 4, 5, 6] rfl) hW hS hf
                            · replace hf := hf.2 c37
                              refine lv_iload hx hb dX12_fetch_176 (lv_at hl 4 rfl) ?_
                              refine lv_if_eq (tgt := 226) hx hb dX12_fetch_178 (by decide) (fun c38 => ?_) (fun c38 => ?_)
                              · replace hf := hf.1 c38
                                exact j226 _ _ _ _ _ _ (lv_sub hl [0, 1, 2, 3, 4, 5, 6] rfl) hW hS hf
                              · replace hf := hf.2 c38
                                refine lv_iload hx hb dX12_fetch_181 (lv_at hl 5 rfl) ?_
                                refine lv_if_eq (tgt := 226) hx hb dX12_fetch_183 (by decide) (fun c39 => ?_) (fun c39 => ?_)
                                · replace hf := hf.1 c39
                                  exact j226 _ _ _ _ _ _ (lv_sub hl [0, 1, 2, 3, 4, 5, 6] rfl) hW hS hf
                                · replace hf := hf.2 c39
                                  refine lv_aload_n hx hb dX12_fetch_186 rfl (lv_at hl 0 rfl) ?_
                                  obtain ⟨b40, hb40, hf⟩ := hf
                                  refine gm_getR (C := RX12) (T := TX12) (N := 68) (j := 32) hx hb hts inT_12 hown hK hW k4 (by decide) rfl (by decide) rfl (hts _ kw_1348) rfl dX12_fetch_187 hb40 ?_
                                  refine lv_aload_n hx hb dX12_fetch_190 rfl (lv_at hl 0 rfl) ?_
                                  refine gm_getI (C := RX12) (T := TX12) (N := 68) (j := 33) hx hb hts inT_12 hown hK hW k4 (by decide) rfl (by decide) rfl (hts _ kw_1349) rfl dX12_fetch_191 ?_
                                  refine lv_aload_n hx hb dX12_fetch_194 rfl (lv_at hl 0 rfl) ?_
                                  obtain ⟨b41, hb41, hf⟩ := hf
                                  refine gm_getR (C := RX12) (T := TX12) (N := 68) (j := 23) hx hb hts inT_12 hown hK hW k4 (by decide) rfl (by decide) rfl (hts _ kw_1339) rfl dX12_fetch_195 hb41 ?_
                                  refine lv_aload_n hx hb dX12_fetch_198 rfl (lv_at hl 0 rfl) ?_
                                  obtain ⟨b42, hb42, hf⟩ := hf
                                  refine gm_getR (C := RX12) (T := TX12) (N := 68) (j := 20) hx hb hts inT_12 hown hK hW k4 (by decide) rfl (by decide) rfl (hts _ kw_1336) rfl dX12_fetch_199 hb42 ?_
                                  refine lv_iload hx hb dX12_fetch_202 (lv_at hl 6 rfl) ?_
                                  obtain ⟨k43, hf⟩ := hf
                                  obtain ⟨h44, hf⟩ := hf
                                  refine gm_iald hx hb hK hW k43 h44 dX12_fetch_204 ?_
                                  refine lv_iload hx hb dX12_fetch_205 (lv_at hl 7 rfl) ?_
                                  refine lv_iadd hx hb dX12_fetch_207 ?_
                                  obtain ⟨k45, hf⟩ := hf
                                  obtain ⟨h46, hf⟩ := hf
                                  refine gm_iald hx hb hK hW k45 h46 dX12_fetch_208 ?_
                                  obtain ⟨k47, hf⟩ := hf
                                  obtain ⟨h48, hf⟩ := hf
                                  refine gm_iast hx hb hK hW hS k47 h48 dX12_fetch_209 (fun H locs M49 eM49 hW hS => ?_)
                                  replace hf := hf M49 eM49
                                  refine lv_aload_n hx hb dX12_fetch_210 rfl (lv_at hl 0 rfl) ?_
                                  refine lv_dup hx hb dX12_fetch_211 rfl ?_
                                  refine gm_getI (C := RX12) (T := TX12) (N := 68) (j := 33) hx hb hts inT_12 hown hK hW k4 (by decide) rfl (by decide) rfl (hts _ kw_1349) rfl dX12_fetch_212 ?_
                                  refine lv_iconst (v := 1) hx hb dX12_fetch_215 (by decide +kernel) ?_
                                  refine lv_iadd hx hb dX12_fetch_216 ?_
                                  refine gm_putI (C := RX12) (T := TX12) (N := 68) (j := 33) hx hb hts inT_12 tyX12 tyX12_ok nmX12 hown hK hW hS k4 (by decide) rfl (by decide) rfl (hts _ kw_1349) rfl rfl rfl rfl dX12_fetch_217 (fun H locs M50 eM50 hW hS => ?_)
                                  replace hf := hf M50 eM50
                                  obtain ⟨x51, ex51⟩ : ∃ y : Int32, y = x32 + 1 := ⟨_, rfl⟩
                                  replace hf := hf x51 ex51
                                  refine lv_iinc (v := x51) (lv' := [(8, .int x51), (0, .ref v0), (1, .int v1), (2, .long v2), (4, .int v4), (5, .int y29), (6, .int y31), (7, .int x17)]) hx hb dX12_fetch_220 hl (k := 7) rfl (by rw [ex51]; rfl) (by decide) rfl (fun ls hl => ?_)
                                  refine lv_goto (tgt := 164) hx hb dX12_fetch_223 (by decide) ?_
                                  exact ih164 _ _ _ _ _ (lv_sub hl [1, 2, 3, 4, 5, 6, 7, 0] rfl) hW hS hf
                        exact lp164 n164 _ _ _ _ _ (lv_sub hl [2, 3, 4, 5, 6, 1, 7, 0] rfl) hW hS hf
                      have j154 : ∀ (H : Heap) (locs : List Loc) (ls : Array Slot), lv_has ls 9 [(0, .ref v0), (1, .int v1), (2, .long v2), (4, .int v4), (5, .int y29), (7, .int x17)] → Wd D cy A Y M30 H → va_S A s.heap H locs → f_X12_fetch_154 Y v0 x17 (LOOP4 (L_X12_fetch_77 Y v0 v1 v2 v4 Kn) n77) y29 M30  → W p l e rm_X12_fetch s m args below meth c H locs 0 0 (MQ below (va_Qi Kn (BG D cy A Y) A) args s 0 0 A) (F0 m 154 ls []) := by
                        intro  H locs ls hl hW hS hf
                        unfold f_X12_fetch_154 at hf
                        refine lv_iconst (v := 1) hx hb dX12_fetch_154 (by decide +kernel) ?_
                        refine lv_goto (tgt := 159) hx hb dX12_fetch_155 (by decide) ?_
                        exact j159 _ _ _ _ (lv_sub hl [0, 1, 2, 3, 4, 5] rfl) hW hS hf
                      refine lv_if_eq (tgt := 154) hx hb dX12_fetch_127 (by decide) (fun c52 => ?_) (fun c52 => ?_)
                      · replace hf := hf.1 c52
                        exact j154  _ _ _ (lv_sub hl [1, 2, 3, 4, 0, 5] rfl) hW hS hf
                      · replace hf := hf.2 c52
                        refine lv_aload_n hx hb dX12_fetch_130 rfl (lv_at hl 1 rfl) ?_
                        refine gm_getI (C := RX12) (T := TX12) (N := 68) (j := 33) hx hb hts inT_12 hown hK hW k4 (by decide) rfl (by decide) rfl (hts _ kw_1349) rfl dX12_fetch_131 ?_
                        refine lv_if_eq (tgt := 154) hx hb dX12_fetch_134 (by decide) (fun c53 => ?_) (fun c53 => ?_)
                        · replace hf := hf.1 c53
                          exact j154  _ _ _ (lv_sub hl [1, 2, 3, 4, 0, 5] rfl) hW hS hf
                        · replace hf := hf.2 c53
                          refine lv_aload_n hx hb dX12_fetch_137 rfl (lv_at hl 1 rfl) ?_
                          refine gm_getI (C := RX12) (T := TX12) (N := 68) (j := 33) hx hb hts inT_12 hown hK hW k4 (by decide) rfl (by decide) rfl (hts _ kw_1349) rfl dX12_fetch_138 ?_
                          refine lv_aload_n hx hb dX12_fetch_141 rfl (lv_at hl 1 rfl) ?_
                          obtain ⟨b54, hb54, hf⟩ := hf
                          refine gm_getR (C := RX12) (T := TX12) (N := 68) (j := 21) hx hb hts inT_12 hown hK hW k4 (by decide) rfl (by decide) rfl (hts _ kw_1337) rfl dX12_fetch_142 hb54 ?_
                          refine lv_iload hx hb dX12_fetch_145 (lv_at hl 5 rfl) ?_
                          obtain ⟨k55, hf⟩ := hf
                          obtain ⟨h56, hf⟩ := hf
                          refine gm_iald hx hb hK hW k55 h56 dX12_fetch_147 ?_
                          refine lv_iadd hx hb dX12_fetch_148 ?_
                          refine lv_iload hx hb dX12_fetch_149 (lv_at hl 4 rfl) ?_
                          refine lv_icmp_gt (tgt := 158) hx hb dX12_fetch_151 (by decide) (fun c57 => ?_) (fun c57 => ?_)
                          · replace hf := hf.1 c57
                            refine lv_iconst (v := 0) hx hb dX12_fetch_158 (by decide +kernel) ?_
                            exact j159 _ _ _ _ (lv_sub hl [1, 2, 3, 4, 0, 5] rfl) hW hS hf
                          · replace hf := hf.2 c57
                            exact j154  _ _ _ (lv_sub hl [1, 2, 3, 4, 0, 5] rfl) hW hS hf
                    have j118 : ∀ (M58 : Mm) (H : Heap) (locs : List Loc) (ls : Array Slot), lv_has ls 9 [(0, .ref v0), (1, .int v1), (2, .long v2), (4, .int v4), (7, .int x17)] → Wd D cy A Y M58 H → va_S A s.heap H locs → f_X12_fetch_118 Y v0 v4 x17 (LOOP4 (L_X12_fetch_77 Y v0 v1 v2 v4 Kn) n77) M58 → W p l e rm_X12_fetch s m args below meth c H locs 0 0 (MQ below (va_Qi Kn (BG D cy A Y) A) args s 0 0 A) (F0 m 118 ls []) := by
                      intro M58 H locs ls hl hW hS hf
                      unfold f_X12_fetch_118 at hf
                      refine lv_iconst (v := 1) hx hb dX12_fetch_118 (by decide +kernel) ?_
                      refine lv_goto (tgt := 123) hx hb dX12_fetch_119 (by decide) ?_
                      exact j123 _ _ _ _ _ (lv_sub hl [0, 1, 2, 3, 4] rfl) hW hS hf
                    refine lv_if_ne (tgt := 118) hx hb dX12_fetch_104 (by decide) (fun c59 => ?_) (fun c59 => ?_)
                    · replace hf := hf.1 c59
                      exact j118 _ _ _ _ (lv_sub hl [0, 1, 2, 3, 6] rfl) hW hS hf
                    · replace hf := hf.2 c59
                      refine lv_aload_n hx hb dX12_fetch_107 rfl (lv_at hl 0 rfl) ?_
                      refine lv_iload hx hb dX12_fetch_108 (lv_at hl 6 rfl) ?_
                      refine gm_cl (va_runV (As := [.int x17]) (rest := []) ⟨hx, hb, hml, hown, hts⟩ (m_X12_lastOffset l D cy tq _ Y _ _ _ _) (cwV 1 hts (good_V kw_1630 kw_1631 kw_1852 kw_12 kw_1632) rfl rfl rfl (by decide +kernel) ⟨Nat.le_of_ble_eq_true rfl, Nat.le_of_ble_eq_true rfl⟩) (gm_preV hK hW hC hS hA k4 (by decide) (q := (RX12, TX12, 68)) rfl rfl hf) rfl rfl hl.1 rfl (lv_room (Nat.le_of_ble_eq_true rfl)) dX12_fetch_110 ⟨Nat.le_of_ble_eq_true rfl, Nat.le_of_ble_eq_true rfl⟩) hW hS hA (fun r61 M60 H locs hW hS hf => ?_)
                      refine lv_lload_n hx hb dX12_fetch_113 rfl (lv_at hl 2 rfl) ?_
                      refine W.lcmp hx hb dX12_fetch_114 ?_
                      refine lv_if_lt (tgt := 122) hx hb dX12_fetch_115 (by decide) (fun c62 => ?_) (fun c62 => ?_)
                      · replace hf := hf.1 (lg_lt.mp c62)
                        refine lv_iconst (v := 0) hx hb dX12_fetch_122 (by decide +kernel) ?_
                        exact j123 _ _ _ _ _ (lv_sub hl [0, 1, 2, 3, 6] rfl) hW hS hf
                      · replace hf := hf.2 (fun z => c62 (lg_lt.mpr z))
                        exact j118 _ _ _ _ (lv_sub hl [0, 1, 2, 3, 6] rfl) hW hS hf
          exact lp77 n77 _ _ _ _ _ _ _ (lv_sub hl [3, 4, 5, 6, 2, 1, 0] rfl) hW hS hf
        · replace hf := hf.2 (fun z => c13 (lg_le.mpr z))
          exact j60  _ _ _ (lv_sub hl [] rfl) hW hS hf
    · replace hf := hf.2 c5
      refine lv_iconst (v := 0) hx hb dX12_fetch_36 (by decide +kernel) ?_
      exact gm_iret hx hb hr hlocks hW hS hf dX12_fetch_37
  have j29 : ∀ (H : Heap) (locs : List Loc) (ls : Array Slot), lv_has ls 9 [(0, .ref v0), (1, .int v1), (2, .long v2), (4, .int v4)] → Wd D cy A Y M H → va_S A s.heap H locs → f_X12_fetch_29 Y v0 v1 v2 v4 M Kn  → W p l e rm_X12_fetch s m args below meth c H locs 0 0 (MQ below (va_Qi Kn (BG D cy A Y) A) args s 0 0 A) (F0 m 29 ls [.ref v0]) := by
    intro  H locs ls hl hW hS hf
    unfold f_X12_fetch_29 at hf
    refine lv_iconst (v := 0) hx hb dX12_fetch_29 (by decide +kernel) ?_
    exact j30 _ _ _ _ (lv_sub hl [0, 1, 2, 3] rfl) hW hS hf
  refine lv_if_lt (tgt := 29) hx hb dX12_fetch_2 (by decide) (fun c63 => ?_) (fun c63 => ?_)
  · replace hf := hf.1 c63
    exact j29  _ _ _ (lv_sub hl [0, 1, 2, 3] rfl) hW hS hf
  · replace hf := hf.2 c63
    refine lv_iload_n hx hb dX12_fetch_5 rfl (lv_at hl 1 rfl) ?_
    refine lv_aload_n hx hb dX12_fetch_6 rfl (lv_at hl 0 rfl) ?_
    obtain ⟨k64, hf⟩ := hf
    refine gm_getI (C := RX12) (T := TX12) (N := 68) (j := 1) hx hb hts inT_12 hown hK hW k64 (by decide) rfl (by decide) rfl (hts _ kw_1317) rfl dX12_fetch_7 ?_
    refine lv_icmp_gt (tgt := 29) hx hb dX12_fetch_10 (by decide) (fun c65 => ?_) (fun c65 => ?_)
    · replace hf := hf.1 c65
      exact j29  _ _ _ (lv_sub hl [0, 1, 2, 3] rfl) hW hS hf
    · replace hf := hf.2 c65
      refine lv_iload hx hb dX12_fetch_13 (lv_at hl 3 rfl) ?_
      refine lv_if_lt (tgt := 29) hx hb dX12_fetch_15 (by decide) (fun c66 => ?_) (fun c66 => ?_)
      · replace hf := hf.1 c66
        exact j29  _ _ _ (lv_sub hl [0, 1, 2, 3] rfl) hW hS hf
      · replace hf := hf.2 c66
        refine lv_iload hx hb dX12_fetch_18 (lv_at hl 3 rfl) ?_
        refine lv_ldc (v := 32768) hx hb hown (hts _ kw_1314) dX12_fetch_20 ?_
        refine lv_icmp_gt (tgt := 29) hx hb dX12_fetch_22 (by decide) (fun c67 => ?_) (fun c67 => ?_)
        · replace hf := hf.1 c67
          exact j29  _ _ _ (lv_sub hl [0, 1, 2, 3] rfl) hW hS hf
        · replace hf := hf.2 c67
          refine lv_iconst (v := 1) hx hb dX12_fetch_25 (by decide +kernel) ?_
          refine lv_goto (tgt := 30) hx hb dX12_fetch_26 (by decide) ?_
          exact j30 _ _ _ _ (lv_sub hl [0, 1, 2, 3] rfl) hW hS hf

abbrev rm_X12_byteAt : Room := { frames := 2, cells := 0, slots := 0, locals := 80 }
def f_X12_byteAt_38 (Y : Ly) (Kn : Int32 → Mm → Prop) (M3 : Mm) (y4 : Int32) : Prop :=
  Kn y4 M3
def f_X12_byteAt_18 (Y : Ly) (v0 : Nat) (v1 : Int32) (M : Mm) (Kn : Int32 → Mm → Prop) (y1 : Int32) : Prop :=
  yK Y v0 = 12 ∧ (∀ M3 : Mm, M3 = sI M v0 (m1 (mI M v0) 0 y1) → (((mI M3 v0 0) ≤ 0 → (∃ b6 : Nat, mR M3 v0 32 = some b6 ∧ (yK Y b6 = 101 ∧ (vp_in v1 (yN Y b6) ∧ (f_X12_byteAt_38 Y Kn M3 (mI M3 b6 v1.toNatClampNeg)))))) ∧ (¬ ((mI M3 v0 0) ≤ 0) → (f_X12_byteAt_38 Y Kn M3 0))))
def f_X12_byteAt_17 (Y : Ly) (v0 : Nat) (v1 : Int32) (M : Mm) (Kn : Int32 → Mm → Prop) : Prop :=
  f_X12_byteAt_18 Y v0 v1 M Kn 1
def f_X12_byteAt (Y : Ly) (v0 : Nat) (v1 : Int32) (M : Mm) (Kn : Int32 → Mm → Prop) : Prop :=
  (v1 < 0 → (f_X12_byteAt_17 Y v0 v1 M Kn)) ∧ (¬ (v1 < 0) → (yK Y v0 = 12 ∧ (((mI M v0 33) ≤ v1 → (f_X12_byteAt_17 Y v0 v1 M Kn)) ∧ (¬ ((mI M v0 33) ≤ v1) → (f_X12_byteAt_18 Y v0 v1 M Kn 0)))))
set_option maxHeartbeats 4000000 in
set_option maxRecDepth 100000 in
theorem m_X12_byteAt (l : Launch) (D : va_G) (cy : Cy) (tq sz : Nat) (Y : Ly) (v0 : Nat) (v1 : Int32) (M : Mm) (Kn : Int32 → Mm → Prop) : Met l yX12_byteAt (Cond.code yX12_byteAt cX12_byteAt 2 (some .int) :: TT) rm_X12_byteAt (PcG D cy tq [.ref v0, .int v1] sz Y M (f_X12_byteAt Y v0 v1 M Kn)) (va_Qi Kn (BG D cy (Am Y sz) Y) (Am Y sz)) 0 0 (Am Y sz) := by
  refine Met.ofW (cc := cX12_byteAt) (maxL := 2) (ret := (some .int)) (by decide) rfl ?_
  intro p e s m args below meth c s₁ B hml hv
  obtain ⟨hargs, hsz, hW, hK, hC, hf⟩ := hv
  subst hsz
  have hx := B.exec
  have hb := B.bytes
  have hr := B.returns
  have hts : ∀ w ∈ TT, w.before args s = true := fun w h => atoms_spec (ws := Cond.code yX12_byteAt cX12_byteAt 2 (some .int) :: TT) B.pre w (List.mem_cons_of_mem _ h)
  have hown : s.vm.findClass RX12 = some m.cls := findClass_of_methodNamed B.named
  have hlocks := B.notSynchronized
  replace hW := Wd_self (sz := s.heap.size) hW
  generalize hAe : Am Y s.heap.size = A at hW hC ⊢
  have hA : ∀ q : Nat, s.heap.size ≤ q → A q := fun q h => by rw [← hAe]; exact Or.inr h
  clear hAe
  have hS : va_S A s.heap s.heap [] := va_S.rf
  obtain ⟨ls, hE, hl⟩ := gm_entry m [.ref v0, .int v1] (n := 2) hargs (Nat.le_of_ble_eq_true rfl)
  rw [hE]
  have hl : lv_has ls 2 [(0, .ref v0), (1, .int v1)] := hl
  show W p l e rm_X12_byteAt s m args below meth c s.heap [] 0 0 (MQ below (va_Qi Kn (BG D cy A Y) A) args s 0 0 A) (F0 m 0 ls [])
  unfold f_X12_byteAt at hf
  refine lv_aload_n hx hb dX12_byteAt_0 rfl (lv_at hl 0 rfl) ?_
  refine lv_iload_n hx hb dX12_byteAt_1 rfl (lv_at hl 1 rfl) ?_
  have j18 : ∀ (y1 : Int32) (H : Heap) (locs : List Loc) (ls : Array Slot), lv_has ls 2 [(0, .ref v0), (1, .int v1)] → Wd D cy A Y M H → va_S A s.heap H locs → f_X12_byteAt_18 Y v0 v1 M Kn y1 → W p l e rm_X12_byteAt s m args below meth c H locs 0 0 (MQ below (va_Qi Kn (BG D cy A Y) A) args s 0 0 A) (F0 m 18 ls [.int y1, .ref v0]) := by
    intro y1 H locs ls hl hW hS hf
    unfold f_X12_byteAt_18 at hf
    obtain ⟨k2, hf⟩ := hf
    refine gm_putI (C := RX12) (T := TX12) (N := 68) (j := 0) hx hb hts inT_12 tyX12 tyX12_ok nmX12 hown hK hW hS k2 (by decide) rfl (by decide) rfl (hts _ kw_1316) rfl rfl rfl rfl dX12_byteAt_18 (fun H locs M3 eM3 hW hS => ?_)
    replace hf := hf M3 eM3
    refine lv_aload_n hx hb dX12_byteAt_21 rfl (lv_at hl 0 rfl) ?_
    refine gm_getI (C := RX12) (T := TX12) (N := 68) (j := 0) hx hb hts inT_12 hown hK hW k2 (by decide) rfl (by decide) rfl (hts _ kw_1316) rfl dX12_byteAt_22 ?_
    have j38 : ∀ (y4 : Int32) (H : Heap) (locs : List Loc) (ls : Array Slot), lv_has ls 2 [] → Wd D cy A Y M3 H → va_S A s.heap H locs → f_X12_byteAt_38 Y Kn M3 y4 → W p l e rm_X12_byteAt s m args below meth c H locs 0 0 (MQ below (va_Qi Kn (BG D cy A Y) A) args s 0 0 A) (F0 m 38 ls [.int y4]) := by
      intro y4 H locs ls hl hW hS hf
      unfold f_X12_byteAt_38 at hf
      exact gm_iret hx hb hr hlocks hW hS hf dX12_byteAt_38
    refine lv_if_le (tgt := 32) hx hb dX12_byteAt_25 (by decide) (fun c5 => ?_) (fun c5 => ?_)
    · replace hf := hf.1 c5
      refine lv_aload_n hx hb dX12_byteAt_32 rfl (lv_at hl 0 rfl) ?_
      obtain ⟨b6, hb6, hf⟩ := hf
      refine gm_getR (C := RX12) (T := TX12) (N := 68) (j := 32) hx hb hts inT_12 hown hK hW k2 (by decide) rfl (by decide) rfl (hts _ kw_1348) rfl dX12_byteAt_33 hb6 ?_
      refine lv_iload_n hx hb dX12_byteAt_36 rfl (lv_at hl 1 rfl) ?_
      obtain ⟨k7, hf⟩ := hf
      obtain ⟨h8, hf⟩ := hf
      refine gm_iald hx hb hK hW k7 h8 dX12_byteAt_37 ?_
      exact j38 _ _ _ _ (lv_sub hl [] rfl) hW hS hf
    · replace hf := hf.2 c5
      refine lv_iconst (v := 0) hx hb dX12_byteAt_28 (by decide +kernel) ?_
      refine lv_goto (tgt := 38) hx hb dX12_byteAt_29 (by decide) ?_
      exact j38 _ _ _ _ (lv_sub hl [] rfl) hW hS hf
  have j17 : ∀ (H : Heap) (locs : List Loc) (ls : Array Slot), lv_has ls 2 [(0, .ref v0), (1, .int v1)] → Wd D cy A Y M H → va_S A s.heap H locs → f_X12_byteAt_17 Y v0 v1 M Kn  → W p l e rm_X12_byteAt s m args below meth c H locs 0 0 (MQ below (va_Qi Kn (BG D cy A Y) A) args s 0 0 A) (F0 m 17 ls [.ref v0]) := by
    intro  H locs ls hl hW hS hf
    unfold f_X12_byteAt_17 at hf
    refine lv_iconst (v := 1) hx hb dX12_byteAt_17 (by decide +kernel) ?_
    exact j18 _ _ _ _ (lv_sub hl [0, 1] rfl) hW hS hf
  refine lv_if_lt (tgt := 17) hx hb dX12_byteAt_2 (by decide) (fun c9 => ?_) (fun c9 => ?_)
  · replace hf := hf.1 c9
    exact j17  _ _ _ (lv_sub hl [0, 1] rfl) hW hS hf
  · replace hf := hf.2 c9
    refine lv_iload_n hx hb dX12_byteAt_5 rfl (lv_at hl 1 rfl) ?_
    refine lv_aload_n hx hb dX12_byteAt_6 rfl (lv_at hl 0 rfl) ?_
    obtain ⟨k10, hf⟩ := hf
    refine gm_getI (C := RX12) (T := TX12) (N := 68) (j := 33) hx hb hts inT_12 hown hK hW k10 (by decide) rfl (by decide) rfl (hts _ kw_1349) rfl dX12_byteAt_7 ?_
    refine lv_icmp_ge (tgt := 17) hx hb dX12_byteAt_10 (by decide) (fun c11 => ?_) (fun c11 => ?_)
    · replace hf := hf.1 c11
      exact j17  _ _ _ (lv_sub hl [0, 1] rfl) hW hS hf
    · replace hf := hf.2 c11
      refine lv_iconst (v := 0) hx hb dX12_byteAt_13 (by decide +kernel) ?_
      refine lv_goto (tgt := 18) hx hb dX12_byteAt_14 (by decide) ?_
      exact j18 _ _ _ _ (lv_sub hl [0, 1] rfl) hW hS hf

abbrev rm_X12_seek : Room := { frames := 5, cells := 0, slots := 0, locals := 153 }
def f_X12_seek_129 (Y : Ly) (Kn : Int64 → Mm → Prop) (M3 : Mm) : Prop :=
  Kn (-1) M3
def L_X12_seek_74 (Y : Ly) (v0 : Nat) (Kn : Int64 → Mm → Prop) (x1 : Int32) (x2 : Int32) (x20 : Int32) (M21 : Mm) (again74 : Int32 → Mm → Prop) : Prop :=
  (x2 < x20 → (∃ b23 : Nat, mR M21 v0 32 = some b23 ∧ (f_X12_number Y b23 x1 8 M21 (fun r25 M24 => (Kn r25 M24))))) ∧ (¬ (x2 < x20) → (∃ b26 : Nat, mR M21 v0 32 = some b26 ∧ (f_X12_number Y b26 (x1 + 27) 8 M21 (fun r28 M27 => (f_X12_readRecord Y v0 r28 M27 (fun r30 M29 => (∀ x31 : Int32, x31 = x20 + 1 → (again74 x31 M29))))))))
def L_X12_seek_4 (Y : Ly) (v0 : Nat) (v1 : Int32) (Kn : Int64 → Mm → Prop) (x1 : Int32) (x2 : Int32) (M3 : Mm) (again4 : Int32 → Int32 → Mm → Prop) : Prop :=
  yK Y v0 = 12 ∧ (((mI M3 v0 33) ≤ x1 → (f_X12_seek_129 Y Kn M3)) ∧ (¬ ((mI M3 v0 33) ≤ x1) → ((v1 < 0 → (f_X12_seek_129 Y Kn M3)) ∧ (¬ (v1 < 0) → (∃ b7 : Nat, mR M3 v0 32 = some b7 ∧ (f_X12_number Y b7 (x1 + 8) 4 M3 (fun r9 M8 => (∀ x10 : Int32, x10 = r9.toInt32 + 12 → (∃ b11 : Nat, mR M8 v0 32 = some b11 ∧ (f_X12_number Y b11 (x1 + 57) 4 M8 (fun r13 M12 => (∀ x14 : Int32, x14 = r13.toInt32 → ((x14 ≤ x2 → (∀ x16 : Int32, x16 = x2 - x14 → (∀ x17 : Int32, x17 = x1 + x10 → (again4 x17 x16 M12)))) ∧ (¬ (x14 ≤ x2) → (∃ b18 : Nat, mR M12 v0 32 = some b18 ∧ (f_X12_reads Y v0 b18 (x1 + 61) (x1 + x10) M12 (fun M19 => (∃ n, LOOP2 (L_X12_seek_74 Y v0 Kn x1 x2) n 0 M19))))))))))))))))))
def f_X12_seek (Y : Ly) (v0 : Nat) (v1 : Int32) (M : Mm) (Kn : Int64 → Mm → Prop) : Prop :=
  ∃ n, LOOP3 (L_X12_seek_4 Y v0 v1 Kn) n 0 v1 M
set_option maxHeartbeats 4000000 in
set_option maxRecDepth 100000 in
theorem m_X12_seek (l : Launch) (D : va_G) (cy : Cy) (tq sz : Nat) (Y : Ly) (v0 : Nat) (v1 : Int32) (M : Mm) (Kn : Int64 → Mm → Prop) : Met l yX12_seek (Cond.code yX12_seek cX12_seek 8 (some .long) :: TT) rm_X12_seek (PcG D cy tq [.ref v0, .int v1] sz Y M (f_X12_seek Y v0 v1 M Kn)) (va_Ql Kn (BG D cy (Am Y sz) Y) (Am Y sz)) 0 0 (Am Y sz) := by
  refine Met.ofW (cc := cX12_seek) (maxL := 8) (ret := (some .long)) (by decide) rfl ?_
  intro p e s m args below meth c s₁ B hml hv
  obtain ⟨hargs, hsz, hW, hK, hC, hf⟩ := hv
  subst hsz
  have hx := B.exec
  have hb := B.bytes
  have hr := B.returns
  have hts : ∀ w ∈ TT, w.before args s = true := fun w h => atoms_spec (ws := Cond.code yX12_seek cX12_seek 8 (some .long) :: TT) B.pre w (List.mem_cons_of_mem _ h)
  have hown : s.vm.findClass RX12 = some m.cls := findClass_of_methodNamed B.named
  have hlocks := B.notSynchronized
  replace hW := Wd_self (sz := s.heap.size) hW
  generalize hAe : Am Y s.heap.size = A at hW hC ⊢
  have hA : ∀ q : Nat, s.heap.size ≤ q → A q := fun q h => by rw [← hAe]; exact Or.inr h
  clear hAe
  have hS : va_S A s.heap s.heap [] := va_S.rf
  obtain ⟨ls, hE, hl⟩ := gm_entry m [.ref v0, .int v1] (n := 8) hargs (Nat.le_of_ble_eq_true rfl)
  rw [hE]
  have hl : lv_has ls 8 [(0, .ref v0), (1, .int v1)] := hl
  show W p l e rm_X12_seek s m args below meth c s.heap [] 0 0 (MQ below (va_Ql Kn (BG D cy A Y) A) args s 0 0 A) (F0 m 0 ls [])
  unfold f_X12_seek at hf
  refine lv_iconst (v := 0) hx hb dX12_seek_0 (by decide +kernel) ?_
  refine lv_istore_n (lv' := [(2, .int 0), (0, .ref v0), (1, .int v1)]) hx hb dX12_seek_1 rfl hl (by decide) rfl (fun ls hl => ?_)
  refine lv_iload_n hx hb dX12_seek_2 rfl (lv_at hl 2 rfl) ?_
  refine lv_istore_n (lv' := [(3, .int v1), (2, .int 0), (0, .ref v0), (1, .int v1)]) hx hb dX12_seek_3 rfl hl (by decide) rfl (fun ls hl => ?_)
  obtain ⟨n4, hf⟩ := hf
  have lp4 : ∀ (n4 : Nat) (x1 : Int32) (x2 : Int32) (M3 : Mm) (H : Heap) (locs : List Loc) (ls : Array Slot), lv_has ls 8 [(0, .ref v0), (1, .int v1), (2, .int x1), (3, .int x2)] → Wd D cy A Y M3 H → va_S A s.heap H locs → LOOP3 (L_X12_seek_4 Y v0 v1 Kn) n4 x1 x2 M3 → W p l e rm_X12_seek s m args below meth c H locs 0 0 (MQ below (va_Ql Kn (BG D cy A Y) A) args s 0 0 A) (F0 m 4 ls []) := by
    intro n4
    induction n4 with
    | zero => intro x1 x2 M3 H locs ls hl hW hS hf; exact hf.elim
    | succ n4 ih4 =>
      intro x1 x2 M3 H locs ls hl hW hS hf
      replace hf : L_X12_seek_4 Y v0 v1 Kn x1 x2 M3 (LOOP3 (L_X12_seek_4 Y v0 v1 Kn) n4) := hf
      unfold L_X12_seek_4 at hf
      refine lv_iload_n hx hb dX12_seek_4 rfl (lv_at hl 2 rfl) ?_
      refine lv_aload_n hx hb dX12_seek_5 rfl (lv_at hl 0 rfl) ?_
      obtain ⟨k4, hf⟩ := hf
      refine gm_getI (C := RX12) (T := TX12) (N := 68) (j := 33) hx hb hts inT_12 hown hK hW k4 (by decide) rfl (by decide) rfl (hts _ kw_1349) rfl dX12_seek_6 ?_
      have j129 : ∀ (H : Heap) (locs : List Loc) (ls : Array Slot), lv_has ls 8 [] → Wd D cy A Y M3 H → va_S A s.heap H locs → f_X12_seek_129 Y Kn M3  → W p l e rm_X12_seek s m args below meth c H locs 0 0 (MQ below (va_Ql Kn (BG D cy A Y) A) args s 0 0 A) (F0 m 129 ls []) := by
        intro  H locs ls hl hW hS hf
        unfold f_X12_seek_129 at hf
        refine lv_ldc2 (v := -1) hx hb hown (hts _ kw_1523) dX12_seek_129 ?_
        exact gm_lret hx hb hr hlocks hW hS hf dX12_seek_132
      refine lv_icmp_ge (tgt := 129) hx hb dX12_seek_9 (by decide) (fun c5 => ?_) (fun c5 => ?_)
      · replace hf := hf.1 c5
        exact j129  _ _ _ (lv_sub hl [] rfl) hW hS hf
      · replace hf := hf.2 c5
        refine lv_iload_n hx hb dX12_seek_12 rfl (lv_at hl 1 rfl) ?_
        refine lv_if_lt (tgt := 129) hx hb dX12_seek_13 (by decide) (fun c6 => ?_) (fun c6 => ?_)
        · replace hf := hf.1 c6
          exact j129  _ _ _ (lv_sub hl [] rfl) hW hS hf
        · replace hf := hf.2 c6
          refine lv_aload_n hx hb dX12_seek_16 rfl (lv_at hl 0 rfl) ?_
          obtain ⟨b7, hb7, hf⟩ := hf
          refine gm_getR (C := RX12) (T := TX12) (N := 68) (j := 32) hx hb hts inT_12 hown hK hW k4 (by decide) rfl (by decide) rfl (hts _ kw_1348) rfl dX12_seek_17 hb7 ?_
          refine lv_iload_n hx hb dX12_seek_20 rfl (lv_at hl 2 rfl) ?_
          refine lv_bipush (v := 8) hx hb dX12_seek_21 (by decide +kernel) ?_
          refine lv_iadd hx hb dX12_seek_23 ?_
          refine lv_iconst (v := 4) hx hb dX12_seek_24 (by decide +kernel) ?_
          refine gm_cl (va_runS (As := [.ref b7, .int (x1 + 8), .int 4]) (rest := []) ⟨hx, hb, hml, hown, hts⟩ (m_X12_number l D cy tq _ Y _ _ _ _ _) (va_cwS 3 hts (good_S kw_1520 kw_1521 kw_12 kw_1522) rfl rfl rfl (by decide +kernel) ⟨Nat.le_of_ble_eq_true rfl, Nat.le_of_ble_eq_true rfl⟩) (gm_preS hK hW hC hS hA hf) rfl rfl hl.1 rfl (lv_room (Nat.le_of_ble_eq_true rfl)) dX12_seek_25 ⟨Nat.le_of_ble_eq_true rfl, Nat.le_of_ble_eq_true rfl⟩) hW hS hA (fun r9 M8 H locs hW hS hf => ?_)
          refine lv_l2i hx hb dX12_seek_28 rfl ?_
          refine lv_bipush (v := 12) hx hb dX12_seek_29 (by decide +kernel) ?_
          refine lv_iadd hx hb dX12_seek_31 ?_
          refine lv_topi (fun x10 ex10 => ?_)
          replace hf := hf x10 ex10
          refine lv_istore (lv' := [(4, .int x10), (0, .ref v0), (1, .int v1), (2, .int x1), (3, .int x2)]) hx hb dX12_seek_32 hl (by decide) rfl (fun ls hl => ?_)
          refine lv_aload_n hx hb dX12_seek_34 rfl (lv_at hl 1 rfl) ?_
          obtain ⟨b11, hb11, hf⟩ := hf
          refine gm_getR (C := RX12) (T := TX12) (N := 68) (j := 32) hx hb hts inT_12 hown hK hW k4 (by decide) rfl (by decide) rfl (hts _ kw_1348) rfl dX12_seek_35 hb11 ?_
          refine lv_iload_n hx hb dX12_seek_38 rfl (lv_at hl 3 rfl) ?_
          refine lv_bipush (v := 57) hx hb dX12_seek_39 (by decide +kernel) ?_
          refine lv_iadd hx hb dX12_seek_41 ?_
          refine lv_iconst (v := 4) hx hb dX12_seek_42 (by decide +kernel) ?_
          refine gm_cl (va_runS (As := [.ref b11, .int (x1 + 57), .int 4]) (rest := []) ⟨hx, hb, hml, hown, hts⟩ (m_X12_number l D cy tq _ Y _ _ _ _ _) (va_cwS 3 hts (good_S kw_1520 kw_1521 kw_12 kw_1522) rfl rfl rfl (by decide +kernel) ⟨Nat.le_of_ble_eq_true rfl, Nat.le_of_ble_eq_true rfl⟩) (gm_preS hK hW hC hS hA hf) rfl rfl hl.1 rfl (lv_room (Nat.le_of_ble_eq_true rfl)) dX12_seek_43 ⟨Nat.le_of_ble_eq_true rfl, Nat.le_of_ble_eq_true rfl⟩) hW hS hA (fun r13 M12 H locs hW hS hf => ?_)
          refine lv_l2i hx hb dX12_seek_46 rfl ?_
          refine lv_topi (fun x14 ex14 => ?_)
          replace hf := hf x14 ex14
          refine lv_istore (lv' := [(5, .int x14), (4, .int x10), (0, .ref v0), (1, .int v1), (2, .int x1), (3, .int x2)]) hx hb dX12_seek_47 hl (by decide) rfl (fun ls hl => ?_)
          refine lv_iload_n hx hb dX12_seek_49 rfl (lv_at hl 5 rfl) ?_
          refine lv_iload hx hb dX12_seek_50 (lv_at hl 0 rfl) ?_
          refine lv_icmp_ge (tgt := 116) hx hb dX12_seek_52 (by decide) (fun c15 => ?_) (fun c15 => ?_)
          · replace hf := hf.1 c15
            refine lv_iload_n hx hb dX12_seek_116 rfl (lv_at hl 5 rfl) ?_
            refine lv_iload hx hb dX12_seek_117 (lv_at hl 0 rfl) ?_
            refine lv_isub hx hb dX12_seek_119 ?_
            refine lv_topi (fun x16 ex16 => ?_)
            replace hf := hf x16 ex16
            refine lv_istore_n (lv' := [(3, .int x16), (5, .int x14), (4, .int x10), (0, .ref v0), (1, .int v1), (2, .int x1)]) hx hb dX12_seek_120 rfl hl (by decide) rfl (fun ls hl => ?_)
            refine lv_iload_n hx hb dX12_seek_121 rfl (lv_at hl 5 rfl) ?_
            refine lv_iload hx hb dX12_seek_122 (lv_at hl 2 rfl) ?_
            refine lv_iadd hx hb dX12_seek_124 ?_
            refine lv_topi (fun x17 ex17 => ?_)
            replace hf := hf x17 ex17
            refine lv_istore_n (lv' := [(2, .int x17), (3, .int x16), (5, .int x14), (4, .int x10), (0, .ref v0), (1, .int v1)]) hx hb dX12_seek_125 rfl hl (by decide) rfl (fun ls hl => ?_)
            refine lv_goto (tgt := 4) hx hb dX12_seek_126 (by decide) ?_
            exact ih4 _ _ _ _ _ _ (lv_sub hl [4, 5, 0, 1] rfl) hW hS hf
          · replace hf := hf.2 c15
            refine lv_aload_n hx hb dX12_seek_55 rfl (lv_at hl 2 rfl) ?_
            refine lv_aload_n hx hb dX12_seek_56 rfl (lv_at hl 2 rfl) ?_
            obtain ⟨b18, hb18, hf⟩ := hf
            refine gm_getR (C := RX12) (T := TX12) (N := 68) (j := 32) hx hb hts inT_12 hown hK hW k4 (by decide) rfl (by decide) rfl (hts _ kw_1348) rfl dX12_seek_57 hb18 ?_
            refine lv_iload_n hx hb dX12_seek_60 rfl (lv_at hl 4 rfl) ?_
            refine lv_bipush (v := 61) hx hb dX12_seek_61 (by decide +kernel) ?_
            refine lv_iadd hx hb dX12_seek_63 ?_
            refine lv_iload_n hx hb dX12_seek_64 rfl (lv_at hl 4 rfl) ?_
            refine lv_iload hx hb dX12_seek_65 (lv_at hl 1 rfl) ?_
            refine lv_iadd hx hb dX12_seek_67 ?_
            refine gm_cv (va_runV (As := [.ref b18, .int (x1 + 61), .int (x1 + x10)]) (rest := []) ⟨hx, hb, hml, hown, hts⟩ (m_X12_reads l D cy tq _ Y _ _ _ _ _ _) (cwV 3 hts (good_V kw_1536 kw_1537 kw_1832 kw_12 kw_1538) rfl rfl rfl (by decide +kernel) ⟨Nat.le_of_ble_eq_true rfl, Nat.le_of_ble_eq_true rfl⟩) (gm_preV hK hW hC hS hA k4 (by decide) (q := (RX12, TX12, 68)) rfl rfl hf) rfl rfl hl.1 rfl (lv_room (Nat.le_of_ble_eq_true rfl)) dX12_seek_68 ⟨Nat.le_of_ble_eq_true rfl, Nat.le_of_ble_eq_true rfl⟩) hW hS hA (fun M19 H locs hW hS hf => ?_)
            refine lv_iconst (v := 0) hx hb dX12_seek_71 (by decide +kernel) ?_
            refine lv_istore (lv' := [(6, .int 0), (5, .int x14), (4, .int x10), (0, .ref v0), (1, .int v1), (2, .int x1), (3, .int x2)]) hx hb dX12_seek_72 hl (by decide) rfl (fun ls hl => ?_)
            obtain ⟨n74, hf⟩ := hf
            have lp74 : ∀ (n74 : Nat) (x20 : Int32) (M21 : Mm) (H : Heap) (locs : List Loc) (ls : Array Slot), lv_has ls 8 [(0, .ref v0), (2, .int x1), (3, .int x2), (6, .int x20)] → Wd D cy A Y M21 H → va_S A s.heap H locs → LOOP2 (L_X12_seek_74 Y v0 Kn x1 x2) n74 x20 M21 → W p l e rm_X12_seek s m args below meth c H locs 0 0 (MQ below (va_Ql Kn (BG D cy A Y) A) args s 0 0 A) (F0 m 74 ls []) := by
              intro n74
              induction n74 with
              | zero => intro x20 M21 H locs ls hl hW hS hf; exact hf.elim
              | succ n74 ih74 =>
                intro x20 M21 H locs ls hl hW hS hf
                replace hf : L_X12_seek_74 Y v0 Kn x1 x2 x20 M21 (LOOP2 (L_X12_seek_74 Y v0 Kn x1 x2) n74) := hf
                unfold L_X12_seek_74 at hf
                refine lv_iload hx hb dX12_seek_74 (lv_at hl 3 rfl) ?_
                refine lv_iload_n hx hb dX12_seek_76 rfl (lv_at hl 2 rfl) ?_
                refine lv_icmp_gt (tgt := 105) hx hb dX12_seek_77 (by decide) (fun c22 => ?_) (fun c22 => ?_)
                · replace hf := hf.1 c22
                  refine lv_aload_n hx hb dX12_seek_105 rfl (lv_at hl 0 rfl) ?_
                  obtain ⟨b23, hb23, hf⟩ := hf
                  refine gm_getR (C := RX12) (T := TX12) (N := 68) (j := 32) hx hb hts inT_12 hown hK hW k4 (by decide) rfl (by decide) rfl (hts _ kw_1348) rfl dX12_seek_106 hb23 ?_
                  refine lv_iload_n hx hb dX12_seek_109 rfl (lv_at hl 1 rfl) ?_
                  refine lv_bipush (v := 8) hx hb dX12_seek_110 (by decide +kernel) ?_
                  refine gm_cl (va_runS (As := [.ref b23, .int x1, .int 8]) (rest := []) ⟨hx, hb, hml, hown, hts⟩ (m_X12_number l D cy tq _ Y _ _ _ _ _) (va_cwS 3 hts (good_S kw_1520 kw_1521 kw_12 kw_1522) rfl rfl rfl (by decide +kernel) ⟨Nat.le_of_ble_eq_true rfl, Nat.le_of_ble_eq_true rfl⟩) (gm_preS hK hW hC hS hA hf) rfl rfl hl.1 rfl (lv_room (Nat.le_of_ble_eq_true rfl)) dX12_seek_112 ⟨Nat.le_of_ble_eq_true rfl, Nat.le_of_ble_eq_true rfl⟩) hW hS hA (fun r25 M24 H locs hW hS hf => ?_)
                  exact gm_lret hx hb hr hlocks hW hS hf dX12_seek_115
                · replace hf := hf.2 c22
                  refine lv_aload_n hx hb dX12_seek_80 rfl (lv_at hl 0 rfl) ?_
                  refine lv_aload_n hx hb dX12_seek_81 rfl (lv_at hl 0 rfl) ?_
                  obtain ⟨b26, hb26, hf⟩ := hf
                  refine gm_getR (C := RX12) (T := TX12) (N := 68) (j := 32) hx hb hts inT_12 hown hK hW k4 (by decide) rfl (by decide) rfl (hts _ kw_1348) rfl dX12_seek_82 hb26 ?_
                  refine lv_iload_n hx hb dX12_seek_85 rfl (lv_at hl 1 rfl) ?_
                  refine lv_bipush (v := 27) hx hb dX12_seek_86 (by decide +kernel) ?_
                  refine lv_iadd hx hb dX12_seek_88 ?_
                  refine lv_bipush (v := 8) hx hb dX12_seek_89 (by decide +kernel) ?_
                  refine gm_cl (va_runS (As := [.ref b26, .int (x1 + 27), .int 8]) (rest := [.ref v0]) ⟨hx, hb, hml, hown, hts⟩ (m_X12_number l D cy tq _ Y _ _ _ _ _) (va_cwS 3 hts (good_S kw_1520 kw_1521 kw_12 kw_1522) rfl rfl rfl (by decide +kernel) ⟨Nat.le_of_ble_eq_true rfl, Nat.le_of_ble_eq_true rfl⟩) (gm_preS hK hW hC hS hA hf) rfl rfl hl.1 rfl (lv_room (Nat.le_of_ble_eq_true rfl)) dX12_seek_91 ⟨Nat.le_of_ble_eq_true rfl, Nat.le_of_ble_eq_true rfl⟩) hW hS hA (fun r28 M27 H locs hW hS hf => ?_)
                  refine gm_ci (va_runV (As := [.long r28]) (rest := []) ⟨hx, hb, hml, hown, hts⟩ (m_X12_readRecord l D cy tq _ Y _ _ _ _) (cwV 1 hts (good_V kw_1539 kw_1540 kw_1833 kw_12 kw_1541) rfl rfl rfl (by decide +kernel) ⟨Nat.le_of_ble_eq_true rfl, Nat.le_of_ble_eq_true rfl⟩) (gm_preV hK hW hC hS hA k4 (by decide) (q := (RX12, TX12, 68)) rfl rfl hf) rfl rfl hl.1 rfl (lv_room (Nat.le_of_ble_eq_true rfl)) dX12_seek_94 ⟨Nat.le_of_ble_eq_true rfl, Nat.le_of_ble_eq_true rfl⟩) hW hS hA (fun r30 M29 H locs hW hS hf => ?_)
                  refine lv_istore (lv' := [(7, .int r30), (0, .ref v0), (2, .int x1), (3, .int x2), (6, .int x20)]) hx hb dX12_seek_97 hl (by decide) rfl (fun ls hl => ?_)
                  obtain ⟨x31, ex31⟩ : ∃ y : Int32, y = x20 + 1 := ⟨_, rfl⟩
                  replace hf := hf x31 ex31
                  refine lv_iinc (v := x31) (lv' := [(6, .int x31), (7, .int r30), (0, .ref v0), (2, .int x1), (3, .int x2)]) hx hb dX12_seek_99 hl (k := 4) rfl (by rw [ex31]; rfl) (by decide) rfl (fun ls hl => ?_)
                  refine lv_goto (tgt := 74) hx hb dX12_seek_102 (by decide) ?_
                  exact ih74 _ _ _ _ _ (lv_sub hl [2, 3, 4, 0] rfl) hW hS hf
            exact lp74 n74 _ _ _ _ _ (lv_sub hl [3, 5, 6, 0] rfl) hW hS hf
  exact lp4 n4 _ _ _ _ _ _ (lv_sub hl [2, 3, 1, 0] rfl) hW hS hf

abbrev rm_X12_taken : Room := { frames := 6, cells := 0, slots := 0, locals := 180 }
def f_X12_taken_33 (Y : Ly) (v0 : Nat) (v2 : Int32) (Kn : Int64 → Mm → Prop) (y1 : Int64) (M2 : Mm) (y3 : Int32) : Prop :=
  yK Y v0 = 12 ∧ (∀ M5 : Mm, M5 = sI M2 v0 (m1 (mI M2 v0) 0 y3) → (((mI M5 v0 0) ≤ 0 → (((v2 < 0 ∨ 5 ≤ v2) → (∃ b7 : Nat, mR M5 v0 32 = some b7 ∧ (f_X12_begin Y b7 (mI M5 v0 51) (mJ M5 v0 52) M5 (fun r9 M8 => (Kn r9 M8))))) ∧ (v2 = 0 → (Kn (y1 + (mJ M5 v0 48)) M5)) ∧ (v2 = 1 → (Kn (mJ M5 v0 47) M5)) ∧ (v2 = 2 → (Kn (mJ M5 v0 50) M5)) ∧ (v2 = 3 → (∃ b11 : Nat, mR M5 v0 32 = some b11 ∧ (f_X12_begin Y b11 (mI M5 v0 49) (mJ M5 v0 50) M5 (fun r13 M12 => (Kn r13 M12))))) ∧ (v2 = 4 → (Kn (mJ M5 v0 52) M5)))) ∧ (¬ ((mI M5 v0 0) ≤ 0) → (Kn 0 M5))))
def f_X12_taken_20 (Y : Ly) (v0 : Nat) (v2 : Int32) (Kn : Int64 → Mm → Prop) (y1 : Int64) (M2 : Mm) : Prop :=
  (0 ≤ y1 → (f_X12_taken_33 Y v0 v2 Kn y1 M2 0)) ∧ (¬ (0 ≤ y1) → (f_X12_taken_33 Y v0 v2 Kn y1 M2 1))
def f_X12_taken_9 (Y : Ly) (v0 : Nat) (v2 : Int32) (M : Mm) (Kn : Int64 → Mm → Prop) : Prop :=
  f_X12_taken_20 Y v0 v2 Kn (-1) M
def f_X12_taken (Y : Ly) (v0 : Nat) (v1 : Int32) (v2 : Int32) (M : Mm) (Kn : Int64 → Mm → Prop) : Prop :=
  (v2 < 0 → (f_X12_taken_9 Y v0 v2 M Kn)) ∧ (¬ (v2 < 0) → ((v2 ≤ 5 → (yK Y v0 = 12 ∧ (f_X12_seek Y v0 v1 M (fun r18 M17 => (f_X12_taken_20 Y v0 v2 Kn r18 M17))))) ∧ (¬ (v2 ≤ 5) → (f_X12_taken_9 Y v0 v2 M Kn))))
set_option maxHeartbeats 4000000 in
set_option maxRecDepth 100000 in
theorem m_X12_taken (l : Launch) (D : va_G) (cy : Cy) (tq sz : Nat) (Y : Ly) (v0 : Nat) (v1 : Int32) (v2 : Int32) (M : Mm) (Kn : Int64 → Mm → Prop) : Met l yX12_taken (Cond.code yX12_taken cX12_taken 5 (some .long) :: TT) rm_X12_taken (PcG D cy tq [.ref v0, .int v1, .int v2] sz Y M (f_X12_taken Y v0 v1 v2 M Kn)) (va_Ql Kn (BG D cy (Am Y sz) Y) (Am Y sz)) 0 0 (Am Y sz) := by
  refine Met.ofW (cc := cX12_taken) (maxL := 5) (ret := (some .long)) (by decide) rfl ?_
  intro p e s m args below meth c s₁ B hml hv
  obtain ⟨hargs, hsz, hW, hK, hC, hf⟩ := hv
  subst hsz
  have hx := B.exec
  have hb := B.bytes
  have hr := B.returns
  have hts : ∀ w ∈ TT, w.before args s = true := fun w h => atoms_spec (ws := Cond.code yX12_taken cX12_taken 5 (some .long) :: TT) B.pre w (List.mem_cons_of_mem _ h)
  have hown : s.vm.findClass RX12 = some m.cls := findClass_of_methodNamed B.named
  have hlocks := B.notSynchronized
  replace hW := Wd_self (sz := s.heap.size) hW
  generalize hAe : Am Y s.heap.size = A at hW hC ⊢
  have hA : ∀ q : Nat, s.heap.size ≤ q → A q := fun q h => by rw [← hAe]; exact Or.inr h
  clear hAe
  have hS : va_S A s.heap s.heap [] := va_S.rf
  obtain ⟨ls, hE, hl⟩ := gm_entry m [.ref v0, .int v1, .int v2] (n := 5) hargs (Nat.le_of_ble_eq_true rfl)
  rw [hE]
  have hl : lv_has ls 5 [(0, .ref v0), (1, .int v1), (2, .int v2)] := hl
  show W p l e rm_X12_taken s m args below meth c s.heap [] 0 0 (MQ below (va_Ql Kn (BG D cy A Y) A) args s 0 0 A) (F0 m 0 ls [])
  unfold f_X12_taken at hf
  refine lv_iload_n hx hb dX12_taken_0 rfl (lv_at hl 2 rfl) ?_
  have j20 : ∀ (y1 : Int64) (M2 : Mm) (H : Heap) (locs : List Loc) (ls : Array Slot), lv_has ls 5 [(0, .ref v0), (2, .int v2)] → Wd D cy A Y M2 H → va_S A s.heap H locs → f_X12_taken_20 Y v0 v2 Kn y1 M2 → W p l e rm_X12_taken s m args below meth c H locs 0 0 (MQ below (va_Ql Kn (BG D cy A Y) A) args s 0 0 A) (F0 m 20 ls [.long y1]) := by
    intro y1 M2 H locs ls hl hW hS hf
    unfold f_X12_taken_20 at hf
    refine lv_lstore_n (lv' := [(3, .long y1), (0, .ref v0), (2, .int v2)]) hx hb dX12_taken_20 rfl hl (by decide) rfl (fun ls hl => ?_)
    refine lv_aload_n hx hb dX12_taken_21 rfl (lv_at hl 1 rfl) ?_
    refine lv_lload_n hx hb dX12_taken_22 rfl (lv_at hl 0 rfl) ?_
    refine lv_lconst (v := 0) hx hb dX12_taken_23 (by decide) ?_
    refine W.lcmp hx hb dX12_taken_24 ?_
    have j33 : ∀ (y3 : Int32) (H : Heap) (locs : List Loc) (ls : Array Slot), lv_has ls 5 [(0, .ref v0), (2, .int v2), (3, .long y1)] → Wd D cy A Y M2 H → va_S A s.heap H locs → f_X12_taken_33 Y v0 v2 Kn y1 M2 y3 → W p l e rm_X12_taken s m args below meth c H locs 0 0 (MQ below (va_Ql Kn (BG D cy A Y) A) args s 0 0 A) (F0 m 33 ls [.int y3, .ref v0]) := by
      intro y3 H locs ls hl hW hS hf
      unfold f_X12_taken_33 at hf
      obtain ⟨k4, hf⟩ := hf
      refine gm_putI (C := RX12) (T := TX12) (N := 68) (j := 0) hx hb hts inT_12 tyX12 tyX12_ok nmX12 hown hK hW hS k4 (by decide) rfl (by decide) rfl (hts _ kw_1316) rfl rfl rfl rfl dX12_taken_33 (fun H locs M5 eM5 hW hS => ?_)
      replace hf := hf M5 eM5
      refine lv_aload_n hx hb dX12_taken_36 rfl (lv_at hl 0 rfl) ?_
      refine gm_getI (C := RX12) (T := TX12) (N := 68) (j := 0) hx hb hts inT_12 hown hK hW k4 (by decide) rfl (by decide) rfl (hts _ kw_1316) rfl dX12_taken_37 ?_
      refine lv_if_le (tgt := 45) hx hb dX12_taken_40 (by decide) (fun c6 => ?_) (fun c6 => ?_)
      · replace hf := hf.1 c6
        refine lv_iload_n hx hb dX12_taken_45 rfl (lv_at hl 1 rfl) ?_
        rcases sw_split v2 5 (by decide) with c10 | ⟨kc10, hkc10, ec10⟩
        · replace hf := hf.1 c10
          refine lv_tableOut (tgt := 118) hx hb dX12_taken_46 (sw_int 5 (by decide) (by decide) c10) (by decide) ?_
          refine lv_aload_n hx hb dX12_taken_118 rfl (lv_at hl 0 rfl) ?_
          obtain ⟨b7, hb7, hf⟩ := hf
          refine gm_getR (C := RX12) (T := TX12) (N := 68) (j := 32) hx hb hts inT_12 hown hK hW k4 (by decide) rfl (by decide) rfl (hts _ kw_1348) rfl dX12_taken_119 hb7 ?_
          refine lv_aload_n hx hb dX12_taken_122 rfl (lv_at hl 0 rfl) ?_
          refine gm_getI (C := RX12) (T := TX12) (N := 68) (j := 51) hx hb hts inT_12 hown hK hW k4 (by decide) rfl (by decide) rfl (hts _ kw_1367) rfl dX12_taken_123 ?_
          refine lv_aload_n hx hb dX12_taken_126 rfl (lv_at hl 0 rfl) ?_
          refine gm_getJ (C := RX12) (T := TX12) (N := 68) (j := 52) hx hb hts inT_12 hown hK hW k4 (by decide) rfl (by decide) rfl (hts _ kw_1368) rfl dX12_taken_127 ?_
          refine gm_cl (va_runS (As := [.ref b7, .int (mI M5 v0 51), .long (mJ M5 v0 52)]) (rest := []) ⟨hx, hb, hml, hown, hts⟩ (m_X12_begin l D cy tq _ Y _ _ _ _ _) (va_cwS 3 hts (good_S kw_1533 kw_1534 kw_12 kw_1535) rfl rfl rfl (by decide +kernel) ⟨Nat.le_of_ble_eq_true rfl, Nat.le_of_ble_eq_true rfl⟩) (gm_preS hK hW hC hS hA hf) rfl rfl hl.1 rfl (lv_room (Nat.le_of_ble_eq_true rfl)) dX12_taken_130 ⟨Nat.le_of_ble_eq_true rfl, Nat.le_of_ble_eq_true rfl⟩) hW hS hA (fun r9 M8 H locs hW hS hf => ?_)
          exact gm_lret hx hb hr hlocks hW hS hf dX12_taken_133
        · rcases (show kc10 = 0 ∨ kc10 = 1 ∨ kc10 = 2 ∨ kc10 = 3 ∨ kc10 = 4 by omega) with rfl | rfl | rfl | rfl | rfl
          · replace hf := hf.2.1 ec10
            refine lv_tableIn (off := 34) (tgt := 80) hx hb dX12_taken_46 (by rw [ec10]; decide) (by rw [ec10]; decide) (by rw [ec10]; rfl) (by decide) ?_
            refine lv_lload_n hx hb dX12_taken_80 rfl (lv_at hl 2 rfl) ?_
            refine lv_aload_n hx hb dX12_taken_81 rfl (lv_at hl 0 rfl) ?_
            refine gm_getJ (C := RX12) (T := TX12) (N := 68) (j := 48) hx hb hts inT_12 hown hK hW k4 (by decide) rfl (by decide) rfl (hts _ kw_1364) rfl dX12_taken_82 ?_
            refine lv_ladd hx hb dX12_taken_85 ?_
            exact gm_lret hx hb hr hlocks hW hS hf dX12_taken_86
          · replace hf := hf.2.2.1 ec10
            refine lv_tableIn (off := 41) (tgt := 87) hx hb dX12_taken_46 (by rw [ec10]; decide) (by rw [ec10]; decide) (by rw [ec10]; rfl) (by decide) ?_
            refine lv_aload_n hx hb dX12_taken_87 rfl (lv_at hl 0 rfl) ?_
            refine gm_getJ (C := RX12) (T := TX12) (N := 68) (j := 47) hx hb hts inT_12 hown hK hW k4 (by decide) rfl (by decide) rfl (hts _ kw_1363) rfl dX12_taken_88 ?_
            exact gm_lret hx hb hr hlocks hW hS hf dX12_taken_91
          · replace hf := hf.2.2.2.1 ec10
            refine lv_tableIn (off := 46) (tgt := 92) hx hb dX12_taken_46 (by rw [ec10]; decide) (by rw [ec10]; decide) (by rw [ec10]; rfl) (by decide) ?_
            refine lv_aload_n hx hb dX12_taken_92 rfl (lv_at hl 0 rfl) ?_
            refine gm_getJ (C := RX12) (T := TX12) (N := 68) (j := 50) hx hb hts inT_12 hown hK hW k4 (by decide) rfl (by decide) rfl (hts _ kw_1366) rfl dX12_taken_93 ?_
            exact gm_lret hx hb hr hlocks hW hS hf dX12_taken_96
          · replace hf := hf.2.2.2.2.1 ec10
            refine lv_tableIn (off := 51) (tgt := 97) hx hb dX12_taken_46 (by rw [ec10]; decide) (by rw [ec10]; decide) (by rw [ec10]; rfl) (by decide) ?_
            refine lv_aload_n hx hb dX12_taken_97 rfl (lv_at hl 0 rfl) ?_
            obtain ⟨b11, hb11, hf⟩ := hf
            refine gm_getR (C := RX12) (T := TX12) (N := 68) (j := 32) hx hb hts inT_12 hown hK hW k4 (by decide) rfl (by decide) rfl (hts _ kw_1348) rfl dX12_taken_98 hb11 ?_
            refine lv_aload_n hx hb dX12_taken_101 rfl (lv_at hl 0 rfl) ?_
            refine gm_getI (C := RX12) (T := TX12) (N := 68) (j := 49) hx hb hts inT_12 hown hK hW k4 (by decide) rfl (by decide) rfl (hts _ kw_1365) rfl dX12_taken_102 ?_
            refine lv_aload_n hx hb dX12_taken_105 rfl (lv_at hl 0 rfl) ?_
            refine gm_getJ (C := RX12) (T := TX12) (N := 68) (j := 50) hx hb hts inT_12 hown hK hW k4 (by decide) rfl (by decide) rfl (hts _ kw_1366) rfl dX12_taken_106 ?_
            refine gm_cl (va_runS (As := [.ref b11, .int (mI M5 v0 49), .long (mJ M5 v0 50)]) (rest := []) ⟨hx, hb, hml, hown, hts⟩ (m_X12_begin l D cy tq _ Y _ _ _ _ _) (va_cwS 3 hts (good_S kw_1533 kw_1534 kw_12 kw_1535) rfl rfl rfl (by decide +kernel) ⟨Nat.le_of_ble_eq_true rfl, Nat.le_of_ble_eq_true rfl⟩) (gm_preS hK hW hC hS hA hf) rfl rfl hl.1 rfl (lv_room (Nat.le_of_ble_eq_true rfl)) dX12_taken_109 ⟨Nat.le_of_ble_eq_true rfl, Nat.le_of_ble_eq_true rfl⟩) hW hS hA (fun r13 M12 H locs hW hS hf => ?_)
            exact gm_lret hx hb hr hlocks hW hS hf dX12_taken_112
          · replace hf := hf.2.2.2.2.2 ec10
            refine lv_tableIn (off := 67) (tgt := 113) hx hb dX12_taken_46 (by rw [ec10]; decide) (by rw [ec10]; decide) (by rw [ec10]; rfl) (by decide) ?_
            refine lv_aload_n hx hb dX12_taken_113 rfl (lv_at hl 0 rfl) ?_
            refine gm_getJ (C := RX12) (T := TX12) (N := 68) (j := 52) hx hb hts inT_12 hown hK hW k4 (by decide) rfl (by decide) rfl (hts _ kw_1368) rfl dX12_taken_114 ?_
            exact gm_lret hx hb hr hlocks hW hS hf dX12_taken_117
      · replace hf := hf.2 c6
        refine lv_lconst (v := 0) hx hb dX12_taken_43 (by decide) ?_
        exact gm_lret hx hb hr hlocks hW hS hf dX12_taken_44
    refine lv_if_ge (tgt := 32) hx hb dX12_taken_25 (by decide) (fun c14 => ?_) (fun c14 => ?_)
    · replace hf := hf.1 (lg_ge.mp c14)
      refine lv_iconst (v := 0) hx hb dX12_taken_32 (by decide +kernel) ?_
      exact j33 _ _ _ _ (lv_sub hl [1, 2, 0] rfl) hW hS hf
    · replace hf := hf.2 (fun z => c14 (lg_ge.mpr z))
      refine lv_iconst (v := 1) hx hb dX12_taken_28 (by decide +kernel) ?_
      refine lv_goto (tgt := 33) hx hb dX12_taken_29 (by decide) ?_
      exact j33 _ _ _ _ (lv_sub hl [1, 2, 0] rfl) hW hS hf
  have j9 : ∀ (H : Heap) (locs : List Loc) (ls : Array Slot), lv_has ls 5 [(0, .ref v0), (2, .int v2)] → Wd D cy A Y M H → va_S A s.heap H locs → f_X12_taken_9 Y v0 v2 M Kn  → W p l e rm_X12_taken s m args below meth c H locs 0 0 (MQ below (va_Ql Kn (BG D cy A Y) A) args s 0 0 A) (F0 m 9 ls []) := by
    intro  H locs ls hl hW hS hf
    unfold f_X12_taken_9 at hf
    refine lv_ldc2 (v := -1) hx hb hown (hts _ kw_1523) dX12_taken_9 ?_
    refine lv_goto (tgt := 20) hx hb dX12_taken_12 (by decide) ?_
    exact j20 _ _ _ _ _ (lv_sub hl [0, 1] rfl) hW hS hf
  refine lv_if_lt (tgt := 9) hx hb dX12_taken_1 (by decide) (fun c15 => ?_) (fun c15 => ?_)
  · replace hf := hf.1 c15
    exact j9  _ _ _ (lv_sub hl [0, 2] rfl) hW hS hf
  · replace hf := hf.2 c15
    refine lv_iload_n hx hb dX12_taken_4 rfl (lv_at hl 2 rfl) ?_
    refine lv_iconst (v := 5) hx hb dX12_taken_5 (by decide +kernel) ?_
    refine lv_icmp_le (tgt := 15) hx hb dX12_taken_6 (by decide) (fun c16 => ?_) (fun c16 => ?_)
    · replace hf := hf.1 c16
      refine lv_aload_n hx hb dX12_taken_15 rfl (lv_at hl 0 rfl) ?_
      refine lv_iload_n hx hb dX12_taken_16 rfl (lv_at hl 1 rfl) ?_
      obtain ⟨k19, hf⟩ := hf
      refine gm_cl (va_runV (As := [.int v1]) (rest := []) ⟨hx, hb, hml, hown, hts⟩ (m_X12_seek l D cy tq _ Y _ _ _ _) (cwV 1 hts (good_V kw_1647 kw_1648 kw_1855 kw_12 kw_1649) rfl rfl rfl (by decide +kernel) ⟨Nat.le_of_ble_eq_true rfl, Nat.le_of_ble_eq_true rfl⟩) (gm_preV hK hW hC hS hA k19 (by decide) (q := (RX12, TX12, 68)) rfl rfl hf) rfl rfl hl.1 rfl (lv_room (Nat.le_of_ble_eq_true rfl)) dX12_taken_17 ⟨Nat.le_of_ble_eq_true rfl, Nat.le_of_ble_eq_true rfl⟩) hW hS hA (fun r18 M17 H locs hW hS hf => ?_)
      exact j20 _ _ _ _ _ (lv_sub hl [0, 2] rfl) hW hS hf
    · replace hf := hf.2 c16
      exact j9  _ _ _ (lv_sub hl [0, 2] rfl) hW hS hf

abbrev rm_X12_find : Room := { frames := 5, cells := 0, slots := 0, locals := 153 }
def f_X12_find_108 (Y : Ly) (x6 : Int32) (again29 : Int32 → Mm → Prop) (M12 : Mm) : Prop :=
  ∀ x13 : Int32, x13 = x6 + 1 → (again29 x13 M12)
def L_X12_find_58 (Y : Ly) (v0 : Nat) (v2 : Int64) (Kn : Int64 → Mm → Prop) (x6 : Int32) (again29 : Int32 → Mm → Prop) (x16 : Int32) (M17 : Mm) (again58 : Int32 → Mm → Prop) : Prop :=
  f_X12_countOf Y v0 x6 M17 (fun r19 M18 => ((r19 ≤ x16 → (f_X12_find_108 Y x6 again29 M18)) ∧ (¬ (r19 ≤ x16) → (f_X12_firstTime Y v0 x6 M18 (fun r22 M21 => (f_X12_readRecord Y v0 r22 M21 (fun r24 M23 => (((mJ M23 v0 47) < v2 → (∀ x26 : Int32, x26 = x16 + 1 → (again58 x26 M23))) ∧ (¬ ((mJ M23 v0 47) < v2) → (f_X12_base Y v0 x6 M23 (fun r28 M27 => (Kn (r28 + (mJ M27 v0 48)) M27))))))))))))
def L_X12_find_29 (Y : Ly) (v0 : Nat) (v1 : Int32) (v2 : Int64) (Kn : Int64 → Mm → Prop) (x6 : Int32) (M7 : Mm) (again29 : Int32 → Mm → Prop) : Prop :=
  ((mI M7 v0 18) ≤ x6 → (Kn (-1) M7)) ∧ (¬ ((mI M7 v0 18) ≤ x6) → (∃ b9 : Nat, mR M7 v0 19 = some b9 ∧ (yK Y b9 = 101 ∧ (vp_in x6 (yN Y b9) ∧ ((¬ (mI M7 b9 x6.toNatClampNeg) = v1 → (f_X12_find_108 Y x6 again29 M7)) ∧ ((mI M7 b9 x6.toNatClampNeg) = v1 → (f_X12_readsBatch Y v0 x6 M7 (fun M15 => (∃ n, LOOP2 (L_X12_find_58 Y v0 v2 Kn x6 again29) n 0 M15)))))))))
def f_X12_find_18 (Y : Ly) (v0 : Nat) (v1 : Int32) (v2 : Int64) (M : Mm) (Kn : Int64 → Mm → Prop) (y1 : Int32) : Prop :=
  yK Y v0 = 12 ∧ (f_X12_goes Y v0 y1 M (fun r3 M2 => ((¬ r3 = 0 → (∃ n, LOOP2 (L_X12_find_29 Y v0 v1 v2 Kn) n 0 M2)) ∧ (r3 = 0 → (Kn 0 M2)))))
def f_X12_find_17 (Y : Ly) (v0 : Nat) (v1 : Int32) (v2 : Int64) (M : Mm) (Kn : Int64 → Mm → Prop) : Prop :=
  f_X12_find_18 Y v0 v1 v2 M Kn 0
def f_X12_find (Y : Ly) (v0 : Nat) (v1 : Int32) (v2 : Int64) (M : Mm) (Kn : Int64 → Mm → Prop) : Prop :=
  (v1 < 0 → (f_X12_find_17 Y v0 v1 v2 M Kn)) ∧ (¬ (v1 < 0) → (yK Y v0 = 12 ∧ (((mI M v0 1) < v1 → (f_X12_find_17 Y v0 v1 v2 M Kn)) ∧ (¬ ((mI M v0 1) < v1) → (f_X12_find_18 Y v0 v1 v2 M Kn 1)))))
set_option maxHeartbeats 4000000 in
set_option maxRecDepth 100000 in
theorem m_X12_find (l : Launch) (D : va_G) (cy : Cy) (tq sz : Nat) (Y : Ly) (v0 : Nat) (v1 : Int32) (v2 : Int64) (M : Mm) (Kn : Int64 → Mm → Prop) : Met l yX12_find (Cond.code yX12_find cX12_find 7 (some .long) :: TT) rm_X12_find (PcG D cy tq [.ref v0, .int v1, .long v2] sz Y M (f_X12_find Y v0 v1 v2 M Kn)) (va_Ql Kn (BG D cy (Am Y sz) Y) (Am Y sz)) 0 0 (Am Y sz) := by
  refine Met.ofW (cc := cX12_find) (maxL := 7) (ret := (some .long)) (by decide) rfl ?_
  intro p e s m args below meth c s₁ B hml hv
  obtain ⟨hargs, hsz, hW, hK, hC, hf⟩ := hv
  subst hsz
  have hx := B.exec
  have hb := B.bytes
  have hr := B.returns
  have hts : ∀ w ∈ TT, w.before args s = true := fun w h => atoms_spec (ws := Cond.code yX12_find cX12_find 7 (some .long) :: TT) B.pre w (List.mem_cons_of_mem _ h)
  have hown : s.vm.findClass RX12 = some m.cls := findClass_of_methodNamed B.named
  have hlocks := B.notSynchronized
  replace hW := Wd_self (sz := s.heap.size) hW
  generalize hAe : Am Y s.heap.size = A at hW hC ⊢
  have hA : ∀ q : Nat, s.heap.size ≤ q → A q := fun q h => by rw [← hAe]; exact Or.inr h
  clear hAe
  have hS : va_S A s.heap s.heap [] := va_S.rf
  obtain ⟨ls, hE, hl⟩ := gm_entry m [.ref v0, .int v1, .long v2] (n := 7) hargs (Nat.le_of_ble_eq_true rfl)
  rw [hE]
  have hl : lv_has ls 7 [(0, .ref v0), (1, .int v1), (2, .long v2)] := hl
  show W p l e rm_X12_find s m args below meth c s.heap [] 0 0 (MQ below (va_Ql Kn (BG D cy A Y) A) args s 0 0 A) (F0 m 0 ls [])
  unfold f_X12_find at hf
  refine lv_aload_n hx hb dX12_find_0 rfl (lv_at hl 0 rfl) ?_
  refine lv_iload_n hx hb dX12_find_1 rfl (lv_at hl 1 rfl) ?_
  have j18 : ∀ (y1 : Int32) (H : Heap) (locs : List Loc) (ls : Array Slot), lv_has ls 7 [(0, .ref v0), (1, .int v1), (2, .long v2)] → Wd D cy A Y M H → va_S A s.heap H locs → f_X12_find_18 Y v0 v1 v2 M Kn y1 → W p l e rm_X12_find s m args below meth c H locs 0 0 (MQ below (va_Ql Kn (BG D cy A Y) A) args s 0 0 A) (F0 m 18 ls [.int y1, .ref v0]) := by
    intro y1 H locs ls hl hW hS hf
    unfold f_X12_find_18 at hf
    obtain ⟨k4, hf⟩ := hf
    refine gm_ci (va_runV (As := [.int y1]) (rest := []) ⟨hx, hb, hml, hown, hts⟩ (m_X12_goes l D cy tq _ Y _ _ _ _) (cwV 1 hts (good_V kw_1564 kw_1565 kw_1838 kw_12 kw_1566) rfl rfl rfl (by decide +kernel) ⟨Nat.le_of_ble_eq_true rfl, Nat.le_of_ble_eq_true rfl⟩) (gm_preV hK hW hC hS hA k4 (by decide) (q := (RX12, TX12, 68)) rfl rfl hf) rfl rfl hl.1 rfl (lv_room (Nat.le_of_ble_eq_true rfl)) dX12_find_18 ⟨Nat.le_of_ble_eq_true rfl, Nat.le_of_ble_eq_true rfl⟩) hW hS hA (fun r3 M2 H locs hW hS hf => ?_)
    refine lv_if_ne (tgt := 26) hx hb dX12_find_21 (by decide) (fun c5 => ?_) (fun c5 => ?_)
    · replace hf := hf.1 c5
      refine lv_iconst (v := 0) hx hb dX12_find_26 (by decide +kernel) ?_
      refine lv_istore (lv' := [(4, .int 0), (0, .ref v0), (1, .int v1), (2, .long v2)]) hx hb dX12_find_27 hl (by decide) rfl (fun ls hl => ?_)
      obtain ⟨n29, hf⟩ := hf
      have lp29 : ∀ (n29 : Nat) (x6 : Int32) (M7 : Mm) (H : Heap) (locs : List Loc) (ls : Array Slot), lv_has ls 7 [(0, .ref v0), (1, .int v1), (2, .long v2), (4, .int x6)] → Wd D cy A Y M7 H → va_S A s.heap H locs → LOOP2 (L_X12_find_29 Y v0 v1 v2 Kn) n29 x6 M7 → W p l e rm_X12_find s m args below meth c H locs 0 0 (MQ below (va_Ql Kn (BG D cy A Y) A) args s 0 0 A) (F0 m 29 ls []) := by
        intro n29
        induction n29 with
        | zero => intro x6 M7 H locs ls hl hW hS hf; exact hf.elim
        | succ n29 ih29 =>
          intro x6 M7 H locs ls hl hW hS hf
          replace hf : L_X12_find_29 Y v0 v1 v2 Kn x6 M7 (LOOP2 (L_X12_find_29 Y v0 v1 v2 Kn) n29) := hf
          unfold L_X12_find_29 at hf
          refine lv_iload hx hb dX12_find_29 (lv_at hl 3 rfl) ?_
          refine lv_aload_n hx hb dX12_find_31 rfl (lv_at hl 0 rfl) ?_
          refine gm_getI (C := RX12) (T := TX12) (N := 68) (j := 18) hx hb hts inT_12 hown hK hW k4 (by decide) rfl (by decide) rfl (hts _ kw_1334) rfl dX12_find_32 ?_
          refine lv_icmp_ge (tgt := 114) hx hb dX12_find_35 (by decide) (fun c8 => ?_) (fun c8 => ?_)
          · replace hf := hf.1 c8
            refine lv_ldc2 (v := -1) hx hb hown (hts _ kw_1523) dX12_find_114 ?_
            exact gm_lret hx hb hr hlocks hW hS hf dX12_find_117
          · replace hf := hf.2 c8
            refine lv_aload_n hx hb dX12_find_38 rfl (lv_at hl 0 rfl) ?_
            obtain ⟨b9, hb9, hf⟩ := hf
            refine gm_getR (C := RX12) (T := TX12) (N := 68) (j := 19) hx hb hts inT_12 hown hK hW k4 (by decide) rfl (by decide) rfl (hts _ kw_1335) rfl dX12_find_39 hb9 ?_
            refine lv_iload hx hb dX12_find_42 (lv_at hl 3 rfl) ?_
            obtain ⟨k10, hf⟩ := hf
            obtain ⟨h11, hf⟩ := hf
            refine gm_iald hx hb hK hW k10 h11 dX12_find_44 ?_
            refine lv_iload_n hx hb dX12_find_45 rfl (lv_at hl 1 rfl) ?_
            have j108 : ∀ (M12 : Mm) (H : Heap) (locs : List Loc) (ls : Array Slot), lv_has ls 7 [(0, .ref v0), (1, .int v1), (2, .long v2), (4, .int x6)] → Wd D cy A Y M12 H → va_S A s.heap H locs → f_X12_find_108 Y x6 (LOOP2 (L_X12_find_29 Y v0 v1 v2 Kn) n29) M12 → W p l e rm_X12_find s m args below meth c H locs 0 0 (MQ below (va_Ql Kn (BG D cy A Y) A) args s 0 0 A) (F0 m 108 ls []) := by
              intro M12 H locs ls hl hW hS hf
              unfold f_X12_find_108 at hf
              obtain ⟨x13, ex13⟩ : ∃ y : Int32, y = x6 + 1 := ⟨_, rfl⟩
              replace hf := hf x13 ex13
              refine lv_iinc (v := x13) (lv' := [(4, .int x13), (0, .ref v0), (1, .int v1), (2, .long v2)]) hx hb dX12_find_108 hl (k := 3) rfl (by rw [ex13]; rfl) (by decide) rfl (fun ls hl => ?_)
              refine lv_goto (tgt := 29) hx hb dX12_find_111 (by decide) ?_
              exact ih29 _ _ _ _ _ (lv_sub hl [1, 2, 3, 0] rfl) hW hS hf
            refine lv_icmp_ne (tgt := 108) hx hb dX12_find_46 (by decide) (fun c14 => ?_) (fun c14 => ?_)
            · replace hf := hf.1 c14
              exact j108 _ _ _ _ (lv_sub hl [0, 1, 2, 3] rfl) hW hS hf
            · replace hf := hf.2 c14
              refine lv_aload_n hx hb dX12_find_49 rfl (lv_at hl 0 rfl) ?_
              refine lv_iload hx hb dX12_find_50 (lv_at hl 3 rfl) ?_
              refine gm_cv (va_runV (As := [.int x6]) (rest := []) ⟨hx, hb, hml, hown, hts⟩ (m_X12_readsBatch l D cy tq _ Y _ _ _ _) (cwV 1 hts (good_V kw_1633 kw_1634 kw_1853 kw_12 kw_1635) rfl rfl rfl (by decide +kernel) ⟨Nat.le_of_ble_eq_true rfl, Nat.le_of_ble_eq_true rfl⟩) (gm_preV hK hW hC hS hA k4 (by decide) (q := (RX12, TX12, 68)) rfl rfl hf) rfl rfl hl.1 rfl (lv_room (Nat.le_of_ble_eq_true rfl)) dX12_find_52 ⟨Nat.le_of_ble_eq_true rfl, Nat.le_of_ble_eq_true rfl⟩) hW hS hA (fun M15 H locs hW hS hf => ?_)
              refine lv_iconst (v := 0) hx hb dX12_find_55 (by decide +kernel) ?_
              refine lv_istore (lv' := [(5, .int 0), (0, .ref v0), (1, .int v1), (2, .long v2), (4, .int x6)]) hx hb dX12_find_56 hl (by decide) rfl (fun ls hl => ?_)
              obtain ⟨n58, hf⟩ := hf
              have lp58 : ∀ (n58 : Nat) (x16 : Int32) (M17 : Mm) (H : Heap) (locs : List Loc) (ls : Array Slot), lv_has ls 7 [(0, .ref v0), (1, .int v1), (2, .long v2), (4, .int x6), (5, .int x16)] → Wd D cy A Y M17 H → va_S A s.heap H locs → LOOP2 (L_X12_find_58 Y v0 v2 Kn x6 (LOOP2 (L_X12_find_29 Y v0 v1 v2 Kn) n29)) n58 x16 M17 → W p l e rm_X12_find s m args below meth c H locs 0 0 (MQ below (va_Ql Kn (BG D cy A Y) A) args s 0 0 A) (F0 m 58 ls []) := by
                intro n58
                induction n58 with
                | zero => intro x16 M17 H locs ls hl hW hS hf; exact hf.elim
                | succ n58 ih58 =>
                  intro x16 M17 H locs ls hl hW hS hf
                  replace hf : L_X12_find_58 Y v0 v2 Kn x6 (LOOP2 (L_X12_find_29 Y v0 v1 v2 Kn) n29) x16 M17 (LOOP2 (L_X12_find_58 Y v0 v2 Kn x6 (LOOP2 (L_X12_find_29 Y v0 v1 v2 Kn) n29)) n58) := hf
                  unfold L_X12_find_58 at hf
                  refine lv_iload hx hb dX12_find_58 (lv_at hl 4 rfl) ?_
                  refine lv_aload_n hx hb dX12_find_60 rfl (lv_at hl 0 rfl) ?_
                  refine lv_iload hx hb dX12_find_61 (lv_at hl 3 rfl) ?_
                  refine gm_ci (va_runV (As := [.int x6]) (rest := [.int x16]) ⟨hx, hb, hml, hown, hts⟩ (m_X12_countOf l D cy tq _ Y _ _ _ _) (cwV 1 hts (good_V kw_1615 kw_1616 kw_1851 kw_12 kw_1617) rfl rfl rfl (by decide +kernel) ⟨Nat.le_of_ble_eq_true rfl, Nat.le_of_ble_eq_true rfl⟩) (gm_preV hK hW hC hS hA k4 (by decide) (q := (RX12, TX12, 68)) rfl rfl hf) rfl rfl hl.1 rfl (lv_room (Nat.le_of_ble_eq_true rfl)) dX12_find_63 ⟨Nat.le_of_ble_eq_true rfl, Nat.le_of_ble_eq_true rfl⟩) hW hS hA (fun r19 M18 H locs hW hS hf => ?_)
                  refine lv_icmp_ge (tgt := 108) hx hb dX12_find_66 (by decide) (fun c20 => ?_) (fun c20 => ?_)
                  · replace hf := hf.1 c20
                    exact j108 _ _ _ _ (lv_sub hl [0, 1, 2, 3] rfl) hW hS hf
                  · replace hf := hf.2 c20
                    refine lv_aload_n hx hb dX12_find_69 rfl (lv_at hl 0 rfl) ?_
                    refine lv_aload_n hx hb dX12_find_70 rfl (lv_at hl 0 rfl) ?_
                    refine lv_iload hx hb dX12_find_71 (lv_at hl 3 rfl) ?_
                    refine gm_cl (va_runV (As := [.int x6]) (rest := [.ref v0]) ⟨hx, hb, hml, hown, hts⟩ (m_X12_firstTime l D cy tq _ Y _ _ _ _) (cwV 1 hts (good_V kw_1636 kw_1637 kw_1854 kw_12 kw_1638) rfl rfl rfl (by decide +kernel) ⟨Nat.le_of_ble_eq_true rfl, Nat.le_of_ble_eq_true rfl⟩) (gm_preV hK hW hC hS hA k4 (by decide) (q := (RX12, TX12, 68)) rfl rfl hf) rfl rfl hl.1 rfl (lv_room (Nat.le_of_ble_eq_true rfl)) dX12_find_73 ⟨Nat.le_of_ble_eq_true rfl, Nat.le_of_ble_eq_true rfl⟩) hW hS hA (fun r22 M21 H locs hW hS hf => ?_)
                    refine gm_ci (va_runV (As := [.long r22]) (rest := []) ⟨hx, hb, hml, hown, hts⟩ (m_X12_readRecord l D cy tq _ Y _ _ _ _) (cwV 1 hts (good_V kw_1539 kw_1540 kw_1833 kw_12 kw_1541) rfl rfl rfl (by decide +kernel) ⟨Nat.le_of_ble_eq_true rfl, Nat.le_of_ble_eq_true rfl⟩) (gm_preV hK hW hC hS hA k4 (by decide) (q := (RX12, TX12, 68)) rfl rfl hf) rfl rfl hl.1 rfl (lv_room (Nat.le_of_ble_eq_true rfl)) dX12_find_76 ⟨Nat.le_of_ble_eq_true rfl, Nat.le_of_ble_eq_true rfl⟩) hW hS hA (fun r24 M23 H locs hW hS hf => ?_)
                    refine lv_istore (lv' := [(6, .int r24), (0, .ref v0), (1, .int v1), (2, .long v2), (4, .int x6), (5, .int x16)]) hx hb dX12_find_79 hl (by decide) rfl (fun ls hl => ?_)
                    refine lv_aload_n hx hb dX12_find_81 rfl (lv_at hl 1 rfl) ?_
                    refine gm_getJ (C := RX12) (T := TX12) (N := 68) (j := 47) hx hb hts inT_12 hown hK hW k4 (by decide) rfl (by decide) rfl (hts _ kw_1363) rfl dX12_find_82 ?_
                    refine lv_lload_n hx hb dX12_find_85 rfl (lv_at hl 3 rfl) ?_
                    refine W.lcmp hx hb dX12_find_86 ?_
                    refine lv_if_lt (tgt := 102) hx hb dX12_find_87 (by decide) (fun c25 => ?_) (fun c25 => ?_)
                    · replace hf := hf.1 (lg_lt.mp c25)
                      obtain ⟨x26, ex26⟩ : ∃ y : Int32, y = x16 + 1 := ⟨_, rfl⟩
                      replace hf := hf x26 ex26
                      refine lv_iinc (v := x26) (lv' := [(5, .int x26), (6, .int r24), (0, .ref v0), (1, .int v1), (2, .long v2), (4, .int x6)]) hx hb dX12_find_102 hl (k := 5) rfl (by rw [ex26]; rfl) (by decide) rfl (fun ls hl => ?_)
                      refine lv_goto (tgt := 58) hx hb dX12_find_105 (by decide) ?_
                      exact ih58 _ _ _ _ _ (lv_sub hl [2, 3, 4, 5, 0] rfl) hW hS hf
                    · replace hf := hf.2 (fun z => c25 (lg_lt.mpr z))
                      refine lv_aload_n hx hb dX12_find_90 rfl (lv_at hl 1 rfl) ?_
                      refine lv_iload hx hb dX12_find_91 (lv_at hl 4 rfl) ?_
                      refine gm_cl (va_runV (As := [.int x6]) (rest := []) ⟨hx, hb, hml, hown, hts⟩ (m_X12_base l D cy tq _ Y _ _ _ _) (cwV 1 hts (good_V kw_1588 kw_1589 kw_1845 kw_12 kw_1590) rfl rfl rfl (by decide +kernel) ⟨Nat.le_of_ble_eq_true rfl, Nat.le_of_ble_eq_true rfl⟩) (gm_preV hK hW hC hS hA k4 (by decide) (q := (RX12, TX12, 68)) rfl rfl hf) rfl rfl hl.1 rfl (lv_room (Nat.le_of_ble_eq_true rfl)) dX12_find_93 ⟨Nat.le_of_ble_eq_true rfl, Nat.le_of_ble_eq_true rfl⟩) hW hS hA (fun r28 M27 H locs hW hS hf => ?_)
                      refine lv_aload_n hx hb dX12_find_96 rfl (lv_at hl 1 rfl) ?_
                      refine gm_getJ (C := RX12) (T := TX12) (N := 68) (j := 48) hx hb hts inT_12 hown hK hW k4 (by decide) rfl (by decide) rfl (hts _ kw_1364) rfl dX12_find_97 ?_
                      refine lv_ladd hx hb dX12_find_100 ?_
                      exact gm_lret hx hb hr hlocks hW hS hf dX12_find_101
              exact lp58 n58 _ _ _ _ _ (lv_sub hl [1, 2, 3, 4, 0] rfl) hW hS hf
      exact lp29 n29 _ _ _ _ _ (lv_sub hl [1, 2, 3, 0] rfl) hW hS hf
    · replace hf := hf.2 c5
      refine lv_lconst (v := 0) hx hb dX12_find_24 (by decide) ?_
      exact gm_lret hx hb hr hlocks hW hS hf dX12_find_25
  have j17 : ∀ (H : Heap) (locs : List Loc) (ls : Array Slot), lv_has ls 7 [(0, .ref v0), (1, .int v1), (2, .long v2)] → Wd D cy A Y M H → va_S A s.heap H locs → f_X12_find_17 Y v0 v1 v2 M Kn  → W p l e rm_X12_find s m args below meth c H locs 0 0 (MQ below (va_Ql Kn (BG D cy A Y) A) args s 0 0 A) (F0 m 17 ls [.ref v0]) := by
    intro  H locs ls hl hW hS hf
    unfold f_X12_find_17 at hf
    refine lv_iconst (v := 0) hx hb dX12_find_17 (by decide +kernel) ?_
    exact j18 _ _ _ _ (lv_sub hl [0, 1, 2] rfl) hW hS hf
  refine lv_if_lt (tgt := 17) hx hb dX12_find_2 (by decide) (fun c29 => ?_) (fun c29 => ?_)
  · replace hf := hf.1 c29
    exact j17  _ _ _ (lv_sub hl [0, 1, 2] rfl) hW hS hf
  · replace hf := hf.2 c29
    refine lv_iload_n hx hb dX12_find_5 rfl (lv_at hl 1 rfl) ?_
    refine lv_aload_n hx hb dX12_find_6 rfl (lv_at hl 0 rfl) ?_
    obtain ⟨k30, hf⟩ := hf
    refine gm_getI (C := RX12) (T := TX12) (N := 68) (j := 1) hx hb hts inT_12 hown hK hW k30 (by decide) rfl (by decide) rfl (hts _ kw_1317) rfl dX12_find_7 ?_
    refine lv_icmp_gt (tgt := 17) hx hb dX12_find_10 (by decide) (fun c31 => ?_) (fun c31 => ?_)
    · replace hf := hf.1 c31
      exact j17  _ _ _ (lv_sub hl [0, 1, 2] rfl) hW hS hf
    · replace hf := hf.2 c31
      refine lv_iconst (v := 1) hx hb dX12_find_13 (by decide +kernel) ?_
      refine lv_goto (tgt := 18) hx hb dX12_find_14 (by decide) ?_
      exact j18 _ _ _ _ (lv_sub hl [0, 1, 2] rfl) hW hS hf

abbrev rm_X12_copy : Room := { frames := 2, cells := 0, slots := 0, locals := 80 }
def f_X12_copy (Y : Ly) (v0 : Nat) (v1 : Int32) (v2 : Int32) (M : Mm) (Kn : Mm → Prop) : Prop :=
  yK Y v0 = 12 ∧ (∃ b2 : Nat, mR M v0 19 = some b2 ∧ (∃ b3 : Nat, mR M v0 19 = some b3 ∧ (yK Y b3 = 101 ∧ (vp_in v1 (yN Y b3) ∧ (yK Y b2 = 101 ∧ (vp_in v2 (yN Y b2) ∧ (∀ M8 : Mm, M8 = sI M b2 (m1 (mI M b2) v2.toNatClampNeg (mI M b3 v1.toNatClampNeg)) → (∃ b9 : Nat, mR M8 v0 20 = some b9 ∧ (∃ b10 : Nat, mR M8 v0 20 = some b10 ∧ (yK Y b10 = 101 ∧ (vp_in v1 (yN Y b10) ∧ (yK Y b9 = 101 ∧ (vp_in v2 (yN Y b9) ∧ (∀ M15 : Mm, M15 = sI M8 b9 (m1 (mI M8 b9) v2.toNatClampNeg (mI M8 b10 v1.toNatClampNeg)) → (∃ b16 : Nat, mR M15 v0 21 = some b16 ∧ (∃ b17 : Nat, mR M15 v0 21 = some b17 ∧ (yK Y b17 = 101 ∧ (vp_in v1 (yN Y b17) ∧ (yK Y b16 = 101 ∧ (vp_in v2 (yN Y b16) ∧ (∀ M22 : Mm, M22 = sI M15 b16 (m1 (mI M15 b16) v2.toNatClampNeg (mI M15 b17 v1.toNatClampNeg)) → (∃ b23 : Nat, mR M22 v0 22 = some b23 ∧ (∃ b24 : Nat, mR M22 v0 22 = some b24 ∧ (yK Y b24 = 101 ∧ (vp_in v1 (yN Y b24) ∧ (yK Y b23 = 101 ∧ (vp_in v2 (yN Y b23) ∧ (∀ M29 : Mm, M29 = sI M22 b23 (m1 (mI M22 b23) v2.toNatClampNeg (mI M22 b24 v1.toNatClampNeg)) → (Kn M29)))))))))))))))))))))))))))))
set_option maxHeartbeats 4000000 in
set_option maxRecDepth 100000 in
theorem m_X12_copy (l : Launch) (D : va_G) (cy : Cy) (tq sz : Nat) (Y : Ly) (v0 : Nat) (v1 : Int32) (v2 : Int32) (M : Mm) (Kn : Mm → Prop) : Met l yX12_copy (Cond.code yX12_copy cX12_copy 3 none :: TT) rm_X12_copy (PcG D cy tq [.ref v0, .int v1, .int v2] sz Y M (f_X12_copy Y v0 v1 v2 M Kn)) (va_Qv Kn (BG D cy (Am Y sz) Y) (Am Y sz)) 0 0 (Am Y sz) := by
  refine Met.ofW (cc := cX12_copy) (maxL := 3) (ret := none) (by decide) rfl ?_
  intro p e s m args below meth c s₁ B hml hv
  obtain ⟨hargs, hsz, hW, hK, hC, hf⟩ := hv
  subst hsz
  have hx := B.exec
  have hb := B.bytes
  have hr := B.returns
  have hts : ∀ w ∈ TT, w.before args s = true := fun w h => atoms_spec (ws := Cond.code yX12_copy cX12_copy 3 none :: TT) B.pre w (List.mem_cons_of_mem _ h)
  have hown : s.vm.findClass RX12 = some m.cls := findClass_of_methodNamed B.named
  have hlocks := B.notSynchronized
  replace hW := Wd_self (sz := s.heap.size) hW
  generalize hAe : Am Y s.heap.size = A at hW hC ⊢
  have hA : ∀ q : Nat, s.heap.size ≤ q → A q := fun q h => by rw [← hAe]; exact Or.inr h
  clear hAe
  have hS : va_S A s.heap s.heap [] := va_S.rf
  obtain ⟨ls, hE, hl⟩ := gm_entry m [.ref v0, .int v1, .int v2] (n := 3) hargs (Nat.le_of_ble_eq_true rfl)
  rw [hE]
  have hl : lv_has ls 3 [(0, .ref v0), (1, .int v1), (2, .int v2)] := hl
  show W p l e rm_X12_copy s m args below meth c s.heap [] 0 0 (MQ below (va_Qv Kn (BG D cy A Y) A) args s 0 0 A) (F0 m 0 ls [])
  unfold f_X12_copy at hf
  refine lv_aload_n hx hb dX12_copy_0 rfl (lv_at hl 0 rfl) ?_
  obtain ⟨k1, hf⟩ := hf
  obtain ⟨b2, hb2, hf⟩ := hf
  refine gm_getR (C := RX12) (T := TX12) (N := 68) (j := 19) hx hb hts inT_12 hown hK hW k1 (by decide) rfl (by decide) rfl (hts _ kw_1335) rfl dX12_copy_1 hb2 ?_
  refine lv_iload_n hx hb dX12_copy_4 rfl (lv_at hl 2 rfl) ?_
  refine lv_aload_n hx hb dX12_copy_5 rfl (lv_at hl 0 rfl) ?_
  obtain ⟨b3, hb3, hf⟩ := hf
  refine gm_getR (C := RX12) (T := TX12) (N := 68) (j := 19) hx hb hts inT_12 hown hK hW k1 (by decide) rfl (by decide) rfl (hts _ kw_1335) rfl dX12_copy_6 hb3 ?_
  refine lv_iload_n hx hb dX12_copy_9 rfl (lv_at hl 1 rfl) ?_
  obtain ⟨k4, hf⟩ := hf
  obtain ⟨h5, hf⟩ := hf
  refine gm_iald hx hb hK hW k4 h5 dX12_copy_10 ?_
  obtain ⟨k6, hf⟩ := hf
  obtain ⟨h7, hf⟩ := hf
  refine gm_iast hx hb hK hW hS k6 h7 dX12_copy_11 (fun H locs M8 eM8 hW hS => ?_)
  replace hf := hf M8 eM8
  refine lv_aload_n hx hb dX12_copy_12 rfl (lv_at hl 0 rfl) ?_
  obtain ⟨b9, hb9, hf⟩ := hf
  refine gm_getR (C := RX12) (T := TX12) (N := 68) (j := 20) hx hb hts inT_12 hown hK hW k1 (by decide) rfl (by decide) rfl (hts _ kw_1336) rfl dX12_copy_13 hb9 ?_
  refine lv_iload_n hx hb dX12_copy_16 rfl (lv_at hl 2 rfl) ?_
  refine lv_aload_n hx hb dX12_copy_17 rfl (lv_at hl 0 rfl) ?_
  obtain ⟨b10, hb10, hf⟩ := hf
  refine gm_getR (C := RX12) (T := TX12) (N := 68) (j := 20) hx hb hts inT_12 hown hK hW k1 (by decide) rfl (by decide) rfl (hts _ kw_1336) rfl dX12_copy_18 hb10 ?_
  refine lv_iload_n hx hb dX12_copy_21 rfl (lv_at hl 1 rfl) ?_
  obtain ⟨k11, hf⟩ := hf
  obtain ⟨h12, hf⟩ := hf
  refine gm_iald hx hb hK hW k11 h12 dX12_copy_22 ?_
  obtain ⟨k13, hf⟩ := hf
  obtain ⟨h14, hf⟩ := hf
  refine gm_iast hx hb hK hW hS k13 h14 dX12_copy_23 (fun H locs M15 eM15 hW hS => ?_)
  replace hf := hf M15 eM15
  refine lv_aload_n hx hb dX12_copy_24 rfl (lv_at hl 0 rfl) ?_
  obtain ⟨b16, hb16, hf⟩ := hf
  refine gm_getR (C := RX12) (T := TX12) (N := 68) (j := 21) hx hb hts inT_12 hown hK hW k1 (by decide) rfl (by decide) rfl (hts _ kw_1337) rfl dX12_copy_25 hb16 ?_
  refine lv_iload_n hx hb dX12_copy_28 rfl (lv_at hl 2 rfl) ?_
  refine lv_aload_n hx hb dX12_copy_29 rfl (lv_at hl 0 rfl) ?_
  obtain ⟨b17, hb17, hf⟩ := hf
  refine gm_getR (C := RX12) (T := TX12) (N := 68) (j := 21) hx hb hts inT_12 hown hK hW k1 (by decide) rfl (by decide) rfl (hts _ kw_1337) rfl dX12_copy_30 hb17 ?_
  refine lv_iload_n hx hb dX12_copy_33 rfl (lv_at hl 1 rfl) ?_
  obtain ⟨k18, hf⟩ := hf
  obtain ⟨h19, hf⟩ := hf
  refine gm_iald hx hb hK hW k18 h19 dX12_copy_34 ?_
  obtain ⟨k20, hf⟩ := hf
  obtain ⟨h21, hf⟩ := hf
  refine gm_iast hx hb hK hW hS k20 h21 dX12_copy_35 (fun H locs M22 eM22 hW hS => ?_)
  replace hf := hf M22 eM22
  refine lv_aload_n hx hb dX12_copy_36 rfl (lv_at hl 0 rfl) ?_
  obtain ⟨b23, hb23, hf⟩ := hf
  refine gm_getR (C := RX12) (T := TX12) (N := 68) (j := 22) hx hb hts inT_12 hown hK hW k1 (by decide) rfl (by decide) rfl (hts _ kw_1338) rfl dX12_copy_37 hb23 ?_
  refine lv_iload_n hx hb dX12_copy_40 rfl (lv_at hl 2 rfl) ?_
  refine lv_aload_n hx hb dX12_copy_41 rfl (lv_at hl 0 rfl) ?_
  obtain ⟨b24, hb24, hf⟩ := hf
  refine gm_getR (C := RX12) (T := TX12) (N := 68) (j := 22) hx hb hts inT_12 hown hK hW k1 (by decide) rfl (by decide) rfl (hts _ kw_1338) rfl dX12_copy_42 hb24 ?_
  refine lv_iload_n hx hb dX12_copy_45 rfl (lv_at hl 1 rfl) ?_
  obtain ⟨k25, hf⟩ := hf
  obtain ⟨h26, hf⟩ := hf
  refine gm_iald hx hb hK hW k25 h26 dX12_copy_46 ?_
  obtain ⟨k27, hf⟩ := hf
  obtain ⟨h28, hf⟩ := hf
  refine gm_iast hx hb hK hW hS k27 h28 dX12_copy_47 (fun H locs M29 eM29 hW hS => ?_)
  replace hf := hf M29 eM29
  exact gm_vret hx hb hr hlocks hW hS hf dX12_copy_48

abbrev rm_X12_retain : Room := { frames := 4, cells := 0, slots := 0, locals := 126 }
def f_X12_retain_445 (Y : Ly) (Kn : Int32 → Mm → Prop) (M19 : Mm) (y20 : Int32) : Prop :=
  Kn y20 M19
def f_X12_retain_431 (Y : Ly) (v0 : Nat) (Kn : Int32 → Mm → Prop) (x13 : Int32) (M19 : Mm) : Prop :=
  ((mI M19 v0 5) = 0 → (f_X12_retain_445 Y Kn M19 x13)) ∧ (¬ ((mI M19 v0 5) = 0) → (f_X12_retain_445 Y Kn M19 (-3)))
def L_X12_retain_349 (Y : Ly) (v0 : Nat) (v1 : Int32) (Kn : Int32 → Mm → Prop) (x13 : Int32) (x34 : Int32) (M35 : Mm) (again349 : Int32 → Mm → Prop) : Prop :=
  ∃ b36 : Nat, mR M35 v0 28 = some b36 ∧ (yK Y b36 = 101 ∧ (vp_in v1 (yN Y b36) ∧ (((mI M35 b36 v1.toNatClampNeg) ≤ x34 → (∃ b40 : Nat, mR M35 v0 28 = some b40 ∧ (yK Y b40 = 101 ∧ (vp_in v1 (yN Y b40) ∧ (vp_in v1 (yN Y b40) ∧ (∀ M44 : Mm, M44 = sI M35 b40 (m1 (mI M35 b40) v1.toNatClampNeg ((mI M35 b40 v1.toNatClampNeg) - x13)) → (f_X12_retain_431 Y v0 Kn x13 M44))))))) ∧ (¬ ((mI M35 b36 v1.toNatClampNeg) ≤ x34) → (∃ b45 : Nat, mR M35 v0 29 = some b45 ∧ (∃ b46 : Nat, mR M35 v0 29 = some b46 ∧ (yK Y b46 = 101 ∧ (vp_in ((60 * v1) + x34) (yN Y b46) ∧ (yK Y b45 = 101 ∧ (vp_in (((60 * v1) + x34) - x13) (yN Y b45) ∧ (∀ M51 : Mm, M51 = sI M35 b45 (m1 (mI M35 b45) (((60 * v1) + x34) - x13).toNatClampNeg (mI M35 b46 ((60 * v1) + x34).toNatClampNeg)) → (∃ b52 : Nat, mR M51 v0 30 = some b52 ∧ (∃ b53 : Nat, mR M51 v0 30 = some b53 ∧ (yK Y b53 = 101 ∧ (vp_in ((60 * v1) + x34) (yN Y b53) ∧ (yK Y b52 = 101 ∧ (vp_in (((60 * v1) + x34) - x13) (yN Y b52) ∧ (∀ M58 : Mm, M58 = sI M51 b52 (m1 (mI M51 b52) (((60 * v1) + x34) - x13).toNatClampNeg (mI M51 b53 ((60 * v1) + x34).toNatClampNeg)) → (∀ x59 : Int32, x59 = x34 + 1 → (again349 x59 M58))))))))))))))))))))
def f_X12_retain_344 (Y : Ly) (v0 : Nat) (v1 : Int32) (Kn : Int32 → Mm → Prop) (x13 : Int32) (M28 : Mm) (b29 : Nat) (y30 : Int64) : Prop :=
  yK Y b29 = 102 ∧ (vp_in v1 (yN Y b29) ∧ (∀ M33 : Mm, M33 = sJ M28 b29 (m1 (mJ M28 b29) v1.toNatClampNeg y30) → (∃ n, LOOP2 (L_X12_retain_349 Y v0 v1 Kn x13) n x13 M33)))
def f_X12_retain_309 (Y : Ly) (x25 : Int32) (again184 : Int32 → Int64 → Int32 → Mm → Prop) (y67 : Int64) (x69 : Int32) (M70 : Mm) : Prop :=
  ∀ x71 : Int32, x71 = x25 + 1 → (again184 x69 y67 x71 M70)
def f_X12_retain_291 (Y : Ly) (v0 : Nat) (x23 : Int32) (x25 : Int32) (again184 : Int32 → Int64 → Int32 → Mm → Prop) (x64 : Int32) (y67 : Int64) (M68 : Mm) : Prop :=
  (¬ x64 = 0 → (f_X12_retain_309 Y x25 again184 y67 x23 M68)) ∧ (x64 = 0 → (f_X12_copy Y v0 x25 x23 M68 (fun M73 => (∀ x74 : Int32, x74 = x23 + 1 → (f_X12_retain_309 Y x25 again184 y67 x74 M73)))))
def f_X12_retain_289 (Y : Ly) (v0 : Nat) (x23 : Int32) (x24 : Int64) (x25 : Int32) (M26 : Mm) (again184 : Int32 → Int64 → Int32 → Mm → Prop) (x64 : Int32) : Prop :=
  f_X12_retain_291 Y v0 x23 x25 again184 x64 x24 M26
def f_X12_retain_249 (Y : Ly) (x65 : Int32) (again199 : Int32 → Int32 → Prop) (y83 : Int32) : Prop :=
  ∀ x84 : Int32, x84 = x65 + 1 → (again199 y83 x84)
def f_X12_retain_244 (Y : Ly) (x65 : Int32) (again199 : Int32 → Int32 → Prop) : Prop :=
  f_X12_retain_249 Y x65 again199 1
def f_X12_retain_248 (Y : Ly) (x65 : Int32) (again199 : Int32 → Int32 → Prop) : Prop :=
  f_X12_retain_249 Y x65 again199 0
def L_X12_retain_199 (Y : Ly) (v0 : Nat) (v1 : Int32) (x13 : Int32) (x23 : Int32) (x24 : Int64) (x25 : Int32) (M26 : Mm) (again184 : Int32 → Int64 → Int32 → Mm → Prop) (x64 : Int32) (x65 : Int32) (again199 : Int32 → Int32 → Prop) : Prop :=
  (x13 ≤ x65 → ((0 ≤ x24 → (f_X12_retain_289 Y v0 x23 x24 x25 M26 again184 x64)) ∧ (¬ (0 ≤ x24) → (∃ b76 : Nat, mR M26 v0 19 = some b76 ∧ (yK Y b76 = 101 ∧ (vp_in x25 (yN Y b76) ∧ ((¬ (mI M26 b76 x25.toNatClampNeg) = v1 → (f_X12_retain_289 Y v0 x23 x24 x25 M26 again184 x64)) ∧ ((mI M26 b76 x25.toNatClampNeg) = v1 → ((¬ x64 = 0 → (f_X12_retain_289 Y v0 x23 x24 x25 M26 again184 x64)) ∧ (x64 = 0 → (f_X12_base Y v0 x25 M26 (fun r82 M81 => (f_X12_retain_291 Y v0 x23 x25 again184 x64 r82 M81))))))))))))) ∧ (¬ (x13 ≤ x65) → ((¬ x64 = 0 → (f_X12_retain_244 Y x65 again199)) ∧ (x64 = 0 → (∃ b86 : Nat, mR M26 v0 19 = some b86 ∧ (yK Y b86 = 101 ∧ (vp_in x25 (yN Y b86) ∧ ((¬ (mI M26 b86 x25.toNatClampNeg) = v1 → (f_X12_retain_248 Y x65 again199)) ∧ ((mI M26 b86 x25.toNatClampNeg) = v1 → (∃ b90 : Nat, mR M26 v0 22 = some b90 ∧ (yK Y b90 = 101 ∧ (vp_in x25 (yN Y b90) ∧ (∃ b93 : Nat, mR M26 v0 29 = some b93 ∧ (yK Y b93 = 101 ∧ (vp_in ((60 * v1) + x65) (yN Y b93) ∧ ((¬ (mI M26 b90 x25.toNatClampNeg) = (mI M26 b93 ((60 * v1) + x65).toNatClampNeg) → (f_X12_retain_248 Y x65 again199)) ∧ ((mI M26 b90 x25.toNatClampNeg) = (mI M26 b93 ((60 * v1) + x65).toNatClampNeg) → (f_X12_retain_244 Y x65 again199)))))))))))))))))
def L_X12_retain_184 (Y : Ly) (v0 : Nat) (v1 : Int32) (Kn : Int32 → Mm → Prop) (x13 : Int32) (x23 : Int32) (x24 : Int64) (x25 : Int32) (M26 : Mm) (again184 : Int32 → Int64 → Int32 → Mm → Prop) : Prop :=
  ((mI M26 v0 18) ≤ x25 → (∀ M28 : Mm, M28 = sI M26 v0 (m1 (mI M26 v0) 18 x23) → (∃ b29 : Nat, mR M28 v0 26 = some b29 ∧ ((0 ≤ x24 → (f_X12_retain_344 Y v0 v1 Kn x13 M28 b29 x24)) ∧ (¬ (0 ≤ x24) → (∃ b61 : Nat, mR M28 v0 27 = some b61 ∧ (yK Y b61 = 102 ∧ (vp_in v1 (yN Y b61) ∧ (f_X12_retain_344 Y v0 v1 Kn x13 M28 b29 (mJ M28 b61 v1.toNatClampNeg)))))))))) ∧ (¬ ((mI M26 v0 18) ≤ x25) → (∃ n, LOOP2 (L_X12_retain_199 Y v0 v1 x13 x23 x24 x25 M26 again184) n 0 0))
def f_X12_retain_152 (Y : Ly) (x13 : Int32) (again73 : Int32 → Int32 → Int32 → Prop) (y100 : Int32) (x102 : Int32) (y103 : Int32) : Prop :=
  ∀ x104 : Int32, x104 = x13 + y103 → (again73 x102 x104 y100)
def f_X12_retain_138 (Y : Ly) (x12 : Int32) (x13 : Int32) (again73 : Int32 → Int32 → Int32 → Prop) (y100 : Int32) (y101 : Int32) : Prop :=
  ∀ x102 : Int32, x102 = x12 - y101 → ((y100 = 0 → (f_X12_retain_152 Y x13 again73 y100 x102 0)) ∧ (¬ (y100 = 0) → (f_X12_retain_152 Y x13 again73 y100 x102 1)))
def f_X12_retain_114 (Y : Ly) (v0 : Nat) (v1 : Int32) (M2 : Mm) (x12 : Int32) (x13 : Int32) (again73 : Int32 → Int32 → Int32 → Prop) (y100 : Int32) : Prop :=
  (y100 = 0 → (f_X12_retain_138 Y x12 x13 again73 y100 0)) ∧ (¬ (y100 = 0) → (∃ b107 : Nat, mR M2 v0 30 = some b107 ∧ (yK Y b107 = 101 ∧ (vp_in ((60 * v1) + x13) (yN Y b107) ∧ (f_X12_retain_138 Y x12 x13 again73 y100 (mI M2 b107 ((60 * v1) + x13).toNatClampNeg))))))
def f_X12_retain_113 (Y : Ly) (v0 : Nat) (v1 : Int32) (M2 : Mm) (x12 : Int32) (x13 : Int32) (again73 : Int32 → Int32 → Int32 → Prop) : Prop :=
  f_X12_retain_114 Y v0 v1 M2 x12 x13 again73 0
def L_X12_retain_73 (Y : Ly) (v0 : Nat) (v1 : Int32) (v2 : Int32) (Kn : Int32 → Mm → Prop) (M2 : Mm) (x12 : Int32) (x13 : Int32) (x14 : Int32) (again73 : Int32 → Int32 → Int32 → Prop) : Prop :=
  (x14 = 0 → ((¬ x13 = 0 → (f_X12_spend Y v0 1 M2 (fun r18 M17 => ((r18 = 0 → (f_X12_retain_431 Y v0 Kn x13 M17)) ∧ (¬ (r18 = 0) → (∃ n, LOOP4 (L_X12_retain_184 Y v0 v1 Kn x13) n 0 (-1) 0 M17)))))) ∧ (x13 = 0 → (Kn 0 M2)))) ∧ (¬ (x14 = 0) → (∃ b97 : Nat, mR M2 v0 28 = some b97 ∧ (yK Y b97 = 101 ∧ (vp_in v1 (yN Y b97) ∧ (((mI M2 b97 v1.toNatClampNeg) ≤ (x13 + 1) → (f_X12_retain_113 Y v0 v1 M2 x12 x13 again73)) ∧ (¬ ((mI M2 b97 v1.toNatClampNeg) ≤ (x13 + 1)) → (∃ b111 : Nat, mR M2 v0 30 = some b111 ∧ (yK Y b111 = 101 ∧ (vp_in ((60 * v1) + x13) (yN Y b111) ∧ (((x12 - (mI M2 b111 ((60 * v1) + x13).toNatClampNeg)) < v2 → (f_X12_retain_113 Y v0 v1 M2 x12 x13 again73)) ∧ (¬ ((x12 - (mI M2 b111 ((60 * v1) + x13).toNatClampNeg)) < v2) → (f_X12_retain_114 Y v0 v1 M2 x12 x13 again73 1))))))))))))
def L_X12_retain_35 (Y : Ly) (v0 : Nat) (v1 : Int32) (v2 : Int32) (Kn : Int32 → Mm → Prop) (M2 : Mm) (x6 : Int32) (x7 : Int32) (again35 : Int32 → Int32 → Prop) : Prop :=
  ∃ b8 : Nat, mR M2 v0 28 = some b8 ∧ (yK Y b8 = 101 ∧ (vp_in v1 (yN Y b8) ∧ (((mI M2 b8 v1.toNatClampNeg) ≤ x7 → (∃ n, LOOP3 (L_X12_retain_73 Y v0 v1 v2 Kn M2) n x6 0 1)) ∧ (¬ ((mI M2 b8 v1.toNatClampNeg) ≤ x7) → (∃ b115 : Nat, mR M2 v0 30 = some b115 ∧ (yK Y b115 = 101 ∧ (vp_in ((60 * v1) + x7) (yN Y b115) ∧ (∀ x118 : Int32, x118 = x6 + (mI M2 b115 ((60 * v1) + x7).toNatClampNeg) → (∀ x119 : Int32, x119 = x7 + 1 → (again35 x118 x119))))))))))
def f_X12_retain_22 (Y : Ly) (v0 : Nat) (v1 : Int32) (v2 : Int32) (M : Mm) (Kn : Int32 → Mm → Prop) (y1 : Int32) : Prop :=
  yK Y v0 = 12 ∧ (f_X12_goes Y v0 y1 M (fun r3 M2 => ((¬ r3 = 0 → (∃ n, LOOP2 (L_X12_retain_35 Y v0 v1 v2 Kn M2) n 0 0)) ∧ (r3 = 0 → (Kn 0 M2)))))
def f_X12_retain_21 (Y : Ly) (v0 : Nat) (v1 : Int32) (v2 : Int32) (M : Mm) (Kn : Int32 → Mm → Prop) : Prop :=
  f_X12_retain_22 Y v0 v1 v2 M Kn 0
def f_X12_retain (Y : Ly) (v0 : Nat) (v1 : Int32) (v2 : Int32) (M : Mm) (Kn : Int32 → Mm → Prop) : Prop :=
  (v1 < 0 → (f_X12_retain_21 Y v0 v1 v2 M Kn)) ∧ (¬ (v1 < 0) → (yK Y v0 = 12 ∧ (((mI M v0 1) ≤ v1 → (f_X12_retain_21 Y v0 v1 v2 M Kn)) ∧ (¬ ((mI M v0 1) ≤ v1) → ((v2 < 0 → (f_X12_retain_21 Y v0 v1 v2 M Kn)) ∧ (¬ (v2 < 0) → (f_X12_retain_22 Y v0 v1 v2 M Kn 1)))))))
set_option maxHeartbeats 4000000 in
set_option maxRecDepth 100000 in
theorem m_X12_retain (l : Launch) (D : va_G) (cy : Cy) (tq sz : Nat) (Y : Ly) (v0 : Nat) (v1 : Int32) (v2 : Int32) (M : Mm) (Kn : Int32 → Mm → Prop) : Met l yX12_retain (Cond.code yX12_retain cX12_retain 12 (some .int) :: TT) rm_X12_retain (PcG D cy tq [.ref v0, .int v1, .int v2] sz Y M (f_X12_retain Y v0 v1 v2 M Kn)) (va_Qi Kn (BG D cy (Am Y sz) Y) (Am Y sz)) 0 0 (Am Y sz) := by
  refine Met.ofW (cc := cX12_retain) (maxL := 12) (ret := (some .int)) (by decide) rfl ?_
  intro p e s m args below meth c s₁ B hml hv
  obtain ⟨hargs, hsz, hW, hK, hC, hf⟩ := hv
  subst hsz
  have hx := B.exec
  have hb := B.bytes
  have hr := B.returns
  have hts : ∀ w ∈ TT, w.before args s = true := fun w h => atoms_spec (ws := Cond.code yX12_retain cX12_retain 12 (some .int) :: TT) B.pre w (List.mem_cons_of_mem _ h)
  have hown : s.vm.findClass RX12 = some m.cls := findClass_of_methodNamed B.named
  have hlocks := B.notSynchronized
  replace hW := Wd_self (sz := s.heap.size) hW
  generalize hAe : Am Y s.heap.size = A at hW hC ⊢
  have hA : ∀ q : Nat, s.heap.size ≤ q → A q := fun q h => by rw [← hAe]; exact Or.inr h
  clear hAe
  have hS : va_S A s.heap s.heap [] := va_S.rf
  obtain ⟨ls, hE, hl⟩ := gm_entry m [.ref v0, .int v1, .int v2] (n := 12) hargs (Nat.le_of_ble_eq_true rfl)
  rw [hE]
  have hl : lv_has ls 12 [(0, .ref v0), (1, .int v1), (2, .int v2)] := hl
  show W p l e rm_X12_retain s m args below meth c s.heap [] 0 0 (MQ below (va_Qi Kn (BG D cy A Y) A) args s 0 0 A) (F0 m 0 ls [])
  unfold f_X12_retain at hf
  refine lv_aload_n hx hb dX12_retain_0 rfl (lv_at hl 0 rfl) ?_
  refine lv_iload_n hx hb dX12_retain_1 rfl (lv_at hl 1 rfl) ?_
  have j22 : ∀ (y1 : Int32) (H : Heap) (locs : List Loc) (ls : Array Slot), lv_has ls 12 [(0, .ref v0), (1, .int v1), (2, .int v2)] → Wd D cy A Y M H → va_S A s.heap H locs → f_X12_retain_22 Y v0 v1 v2 M Kn y1 → W p l e rm_X12_retain s m args below meth c H locs 0 0 (MQ below (va_Qi Kn (BG D cy A Y) A) args s 0 0 A) (F0 m 22 ls [.int y1, .ref v0]) := by
    intro y1 H locs ls hl hW hS hf
    unfold f_X12_retain_22 at hf
    obtain ⟨k4, hf⟩ := hf
    refine gm_ci (va_runV (As := [.int y1]) (rest := []) ⟨hx, hb, hml, hown, hts⟩ (m_X12_goes l D cy tq _ Y _ _ _ _) (cwV 1 hts (good_V kw_1564 kw_1565 kw_1838 kw_12 kw_1566) rfl rfl rfl (by decide +kernel) ⟨Nat.le_of_ble_eq_true rfl, Nat.le_of_ble_eq_true rfl⟩) (gm_preV hK hW hC hS hA k4 (by decide) (q := (RX12, TX12, 68)) rfl rfl hf) rfl rfl hl.1 rfl (lv_room (Nat.le_of_ble_eq_true rfl)) dX12_retain_22 ⟨Nat.le_of_ble_eq_true rfl, Nat.le_of_ble_eq_true rfl⟩) hW hS hA (fun r3 M2 H locs hW hS hf => ?_)
    refine lv_if_ne (tgt := 30) hx hb dX12_retain_25 (by decide) (fun c5 => ?_) (fun c5 => ?_)
    · replace hf := hf.1 c5
      refine lv_iconst (v := 0) hx hb dX12_retain_30 (by decide +kernel) ?_
      refine lv_istore_n (lv' := [(3, .int 0), (0, .ref v0), (1, .int v1), (2, .int v2)]) hx hb dX12_retain_31 rfl hl (by decide) rfl (fun ls hl => ?_)
      refine lv_iconst (v := 0) hx hb dX12_retain_32 (by decide +kernel) ?_
      refine lv_istore (lv' := [(4, .int 0), (3, .int 0), (0, .ref v0), (1, .int v1), (2, .int v2)]) hx hb dX12_retain_33 hl (by decide) rfl (fun ls hl => ?_)
      obtain ⟨n35, hf⟩ := hf
      have lp35 : ∀ (n35 : Nat) (x6 : Int32) (x7 : Int32) (H : Heap) (locs : List Loc) (ls : Array Slot), lv_has ls 12 [(0, .ref v0), (1, .int v1), (2, .int v2), (3, .int x6), (4, .int x7)] → Wd D cy A Y M2 H → va_S A s.heap H locs → LOOP2 (L_X12_retain_35 Y v0 v1 v2 Kn M2) n35 x6 x7 → W p l e rm_X12_retain s m args below meth c H locs 0 0 (MQ below (va_Qi Kn (BG D cy A Y) A) args s 0 0 A) (F0 m 35 ls []) := by
        intro n35
        induction n35 with
        | zero => intro x6 x7 H locs ls hl hW hS hf; exact hf.elim
        | succ n35 ih35 =>
          intro x6 x7 H locs ls hl hW hS hf
          replace hf : L_X12_retain_35 Y v0 v1 v2 Kn M2 x6 x7 (LOOP2 (L_X12_retain_35 Y v0 v1 v2 Kn M2) n35) := hf
          unfold L_X12_retain_35 at hf
          refine lv_iload hx hb dX12_retain_35 (lv_at hl 4 rfl) ?_
          refine lv_aload_n hx hb dX12_retain_37 rfl (lv_at hl 0 rfl) ?_
          obtain ⟨b8, hb8, hf⟩ := hf
          refine gm_getR (C := RX12) (T := TX12) (N := 68) (j := 28) hx hb hts inT_12 hown hK hW k4 (by decide) rfl (by decide) rfl (hts _ kw_1344) rfl dX12_retain_38 hb8 ?_
          refine lv_iload_n hx hb dX12_retain_41 rfl (lv_at hl 1 rfl) ?_
          obtain ⟨k9, hf⟩ := hf
          obtain ⟨h10, hf⟩ := hf
          refine gm_iald hx hb hK hW k9 h10 dX12_retain_42 ?_
          refine lv_icmp_ge (tgt := 67) hx hb dX12_retain_43 (by decide) (fun c11 => ?_) (fun c11 => ?_)
          · replace hf := hf.1 c11
            refine lv_iconst (v := 0) hx hb dX12_retain_67 (by decide +kernel) ?_
            refine lv_istore (lv' := [(4, .int 0), (0, .ref v0), (1, .int v1), (2, .int v2), (3, .int x6)]) hx hb dX12_retain_68 hl (by decide) rfl (fun ls hl => ?_)
            refine lv_iconst (v := 1) hx hb dX12_retain_70 (by decide +kernel) ?_
            refine lv_istore (lv' := [(5, .int 1), (4, .int 0), (0, .ref v0), (1, .int v1), (2, .int v2), (3, .int x6)]) hx hb dX12_retain_71 hl (by decide) rfl (fun ls hl => ?_)
            obtain ⟨n73, hf⟩ := hf
            have lp73 : ∀ (n73 : Nat) (x12 : Int32) (x13 : Int32) (x14 : Int32) (H : Heap) (locs : List Loc) (ls : Array Slot), lv_has ls 12 [(0, .ref v0), (1, .int v1), (2, .int v2), (3, .int x12), (4, .int x13), (5, .int x14)] → Wd D cy A Y M2 H → va_S A s.heap H locs → LOOP3 (L_X12_retain_73 Y v0 v1 v2 Kn M2) n73 x12 x13 x14 → W p l e rm_X12_retain s m args below meth c H locs 0 0 (MQ below (va_Qi Kn (BG D cy A Y) A) args s 0 0 A) (F0 m 73 ls []) := by
              intro n73
              induction n73 with
              | zero => intro x12 x13 x14 H locs ls hl hW hS hf; exact hf.elim
              | succ n73 ih73 =>
                intro x12 x13 x14 H locs ls hl hW hS hf
                replace hf : L_X12_retain_73 Y v0 v1 v2 Kn M2 x12 x13 x14 (LOOP3 (L_X12_retain_73 Y v0 v1 v2 Kn M2) n73) := hf
                unfold L_X12_retain_73 at hf
                refine lv_iload hx hb dX12_retain_73 (lv_at hl 5 rfl) ?_
                refine lv_if_eq (tgt := 158) hx hb dX12_retain_75 (by decide) (fun c15 => ?_) (fun c15 => ?_)
                · replace hf := hf.1 c15
                  refine lv_iload hx hb dX12_retain_158 (lv_at hl 4 rfl) ?_
                  refine lv_if_ne (tgt := 165) hx hb dX12_retain_160 (by decide) (fun c16 => ?_) (fun c16 => ?_)
                  · replace hf := hf.1 c16
                    refine lv_aload_n hx hb dX12_retain_165 rfl (lv_at hl 0 rfl) ?_
                    refine lv_iconst (v := 1) hx hb dX12_retain_166 (by decide +kernel) ?_
                    refine gm_ci (va_runV (As := [.int 1]) (rest := []) ⟨hx, hb, hml, hown, hts⟩ (m_X12_spend l D cy tq _ Y _ _ _ _) (cwV 1 hts (good_V kw_1555 kw_1556 kw_1837 kw_12 kw_1557) rfl rfl rfl (by decide +kernel) ⟨Nat.le_of_ble_eq_true rfl, Nat.le_of_ble_eq_true rfl⟩) (gm_preV hK hW hC hS hA k4 (by decide) (q := (RX12, TX12, 68)) rfl rfl hf) rfl rfl hl.1 rfl (lv_room (Nat.le_of_ble_eq_true rfl)) dX12_retain_167 ⟨Nat.le_of_ble_eq_true rfl, Nat.le_of_ble_eq_true rfl⟩) hW hS hA (fun r18 M17 H locs hW hS hf => ?_)
                    have j431 : ∀ (M19 : Mm) (H : Heap) (locs : List Loc) (ls : Array Slot), lv_has ls 12 [(0, .ref v0), (4, .int x13)] → Wd D cy A Y M19 H → va_S A s.heap H locs → f_X12_retain_431 Y v0 Kn x13 M19 → W p l e rm_X12_retain s m args below meth c H locs 0 0 (MQ below (va_Qi Kn (BG D cy A Y) A) args s 0 0 A) (F0 m 431 ls []) := by
                      intro M19 H locs ls hl hW hS hf
                      unfold f_X12_retain_431 at hf
                      refine lv_aload_n hx hb dX12_retain_431 rfl (lv_at hl 0 rfl) ?_
                      refine gm_getI (C := RX12) (T := TX12) (N := 68) (j := 5) hx hb hts inT_12 hown hK hW k4 (by decide) rfl (by decide) rfl (hts _ kw_1321) rfl dX12_retain_432 ?_
                      have j445 : ∀ (y20 : Int32) (H : Heap) (locs : List Loc) (ls : Array Slot), lv_has ls 12 [] → Wd D cy A Y M19 H → va_S A s.heap H locs → f_X12_retain_445 Y Kn M19 y20 → W p l e rm_X12_retain s m args below meth c H locs 0 0 (MQ below (va_Qi Kn (BG D cy A Y) A) args s 0 0 A) (F0 m 445 ls [.int y20]) := by
                        intro y20 H locs ls hl hW hS hf
                        unfold f_X12_retain_445 at hf
                        exact gm_iret hx hb hr hlocks hW hS hf dX12_retain_445
                      refine lv_if_eq (tgt := 443) hx hb dX12_retain_435 (by decide) (fun c21 => ?_) (fun c21 => ?_)
                      · replace hf := hf.1 c21
                        refine lv_iload hx hb dX12_retain_443 (lv_at hl 1 rfl) ?_
                        exact j445 _ _ _ _ (lv_sub hl [] rfl) hW hS hf
                      · replace hf := hf.2 c21
                        refine lv_bipush (v := -3) hx hb dX12_retain_438 (by decide +kernel) ?_
                        refine lv_goto (tgt := 445) hx hb dX12_retain_440 (by decide) ?_
                        exact j445 _ _ _ _ (lv_sub hl [] rfl) hW hS hf
                    refine lv_if_eq (tgt := 431) hx hb dX12_retain_170 (by decide) (fun c22 => ?_) (fun c22 => ?_)
                    · replace hf := hf.1 c22
                      exact j431 _ _ _ _ (lv_sub hl [0, 4] rfl) hW hS hf
                    · replace hf := hf.2 c22
                      refine lv_iconst (v := 0) hx hb dX12_retain_173 (by decide +kernel) ?_
                      refine lv_istore (lv' := [(6, .int 0), (0, .ref v0), (1, .int v1), (2, .int v2), (3, .int x12), (4, .int x13), (5, .int x14)]) hx hb dX12_retain_174 hl (by decide) rfl (fun ls hl => ?_)
                      refine lv_ldc2 (v := -1) hx hb hown (hts _ kw_1523) dX12_retain_176 ?_
                      refine lv_lstore (lv' := [(7, .long (-1)), (6, .int 0), (0, .ref v0), (1, .int v1), (2, .int v2), (3, .int x12), (4, .int x13), (5, .int x14)]) hx hb dX12_retain_179 hl (by decide) rfl (fun ls hl => ?_)
                      refine lv_iconst (v := 0) hx hb dX12_retain_181 (by decide +kernel) ?_
                      refine lv_istore (lv' := [(9, .int 0), (7, .long (-1)), (6, .int 0), (0, .ref v0), (1, .int v1), (2, .int v2), (3, .int x12), (4, .int x13), (5, .int x14)]) hx hb dX12_retain_182 hl (by decide) rfl (fun ls hl => ?_)
                      obtain ⟨n184, hf⟩ := hf
                      have lp184 : ∀ (n184 : Nat) (x23 : Int32) (x24 : Int64) (x25 : Int32) (M26 : Mm) (H : Heap) (locs : List Loc) (ls : Array Slot), lv_has ls 12 [(0, .ref v0), (1, .int v1), (4, .int x13), (6, .int x23), (7, .long x24), (9, .int x25)] → Wd D cy A Y M26 H → va_S A s.heap H locs → LOOP4 (L_X12_retain_184 Y v0 v1 Kn x13) n184 x23 x24 x25 M26 → W p l e rm_X12_retain s m args below meth c H locs 0 0 (MQ below (va_Qi Kn (BG D cy A Y) A) args s 0 0 A) (F0 m 184 ls []) := by
                        intro n184
                        induction n184 with
                        | zero => intro x23 x24 x25 M26 H locs ls hl hW hS hf; exact hf.elim
                        | succ n184 ih184 =>
                          intro x23 x24 x25 M26 H locs ls hl hW hS hf
                          replace hf : L_X12_retain_184 Y v0 v1 Kn x13 x23 x24 x25 M26 (LOOP4 (L_X12_retain_184 Y v0 v1 Kn x13) n184) := hf
                          unfold L_X12_retain_184 at hf
                          refine lv_iload hx hb dX12_retain_184 (lv_at hl 5 rfl) ?_
                          refine lv_aload_n hx hb dX12_retain_186 rfl (lv_at hl 0 rfl) ?_
                          refine gm_getI (C := RX12) (T := TX12) (N := 68) (j := 18) hx hb hts inT_12 hown hK hW k4 (by decide) rfl (by decide) rfl (hts _ kw_1334) rfl dX12_retain_187 ?_
                          refine lv_icmp_ge (tgt := 315) hx hb dX12_retain_190 (by decide) (fun c27 => ?_) (fun c27 => ?_)
                          · replace hf := hf.1 c27
                            refine lv_aload_n hx hb dX12_retain_315 rfl (lv_at hl 0 rfl) ?_
                            refine lv_iload hx hb dX12_retain_316 (lv_at hl 3 rfl) ?_
                            refine gm_putI (C := RX12) (T := TX12) (N := 68) (j := 18) hx hb hts inT_12 tyX12 tyX12_ok nmX12 hown hK hW hS k4 (by decide) rfl (by decide) rfl (hts _ kw_1334) rfl rfl rfl rfl dX12_retain_318 (fun H locs M28 eM28 hW hS => ?_)
                            replace hf := hf M28 eM28
                            refine lv_aload_n hx hb dX12_retain_321 rfl (lv_at hl 0 rfl) ?_
                            obtain ⟨b29, hb29, hf⟩ := hf
                            refine gm_getR (C := RX12) (T := TX12) (N := 68) (j := 26) hx hb hts inT_12 hown hK hW k4 (by decide) rfl (by decide) rfl (hts _ kw_1342) rfl dX12_retain_322 hb29 ?_
                            refine lv_iload_n hx hb dX12_retain_325 rfl (lv_at hl 1 rfl) ?_
                            refine lv_lload hx hb dX12_retain_326 (lv_at hl 4 rfl) ?_
                            refine lv_lconst (v := 0) hx hb dX12_retain_328 (by decide) ?_
                            refine W.lcmp hx hb dX12_retain_329 ?_
                            have j344 : ∀ (y30 : Int64) (H : Heap) (locs : List Loc) (ls : Array Slot), lv_has ls 12 [(0, .ref v0), (1, .int v1), (4, .int x13)] → Wd D cy A Y M28 H → va_S A s.heap H locs → f_X12_retain_344 Y v0 v1 Kn x13 M28 b29 y30 → W p l e rm_X12_retain s m args below meth c H locs 0 0 (MQ below (va_Qi Kn (BG D cy A Y) A) args s 0 0 A) (F0 m 344 ls [.long y30, .int v1, .ref b29]) := by
                              intro y30 H locs ls hl hW hS hf
                              unfold f_X12_retain_344 at hf
                              obtain ⟨k31, hf⟩ := hf
                              obtain ⟨h32, hf⟩ := hf
                              refine gm_last hx hb hK hW hS k31 h32 dX12_retain_344 (fun H locs M33 eM33 hW hS => ?_)
                              replace hf := hf M33 eM33
                              refine lv_iload hx hb dX12_retain_345 (lv_at hl 2 rfl) ?_
                              refine lv_istore (lv' := [(9, .int x13), (0, .ref v0), (1, .int v1), (4, .int x13)]) hx hb dX12_retain_347 hl (by decide) rfl (fun ls hl => ?_)
                              obtain ⟨n349, hf⟩ := hf
                              have lp349 : ∀ (n349 : Nat) (x34 : Int32) (M35 : Mm) (H : Heap) (locs : List Loc) (ls : Array Slot), lv_has ls 12 [(0, .ref v0), (1, .int v1), (4, .int x13), (9, .int x34)] → Wd D cy A Y M35 H → va_S A s.heap H locs → LOOP2 (L_X12_retain_349 Y v0 v1 Kn x13) n349 x34 M35 → W p l e rm_X12_retain s m args below meth c H locs 0 0 (MQ below (va_Qi Kn (BG D cy A Y) A) args s 0 0 A) (F0 m 349 ls []) := by
                                intro n349
                                induction n349 with
                                | zero => intro x34 M35 H locs ls hl hW hS hf; exact hf.elim
                                | succ n349 ih349 =>
                                  intro x34 M35 H locs ls hl hW hS hf
                                  replace hf : L_X12_retain_349 Y v0 v1 Kn x13 x34 M35 (LOOP2 (L_X12_retain_349 Y v0 v1 Kn x13) n349) := hf
                                  unfold L_X12_retain_349 at hf
                                  refine lv_iload hx hb dX12_retain_349 (lv_at hl 3 rfl) ?_
                                  refine lv_aload_n hx hb dX12_retain_351 rfl (lv_at hl 0 rfl) ?_
                                  obtain ⟨b36, hb36, hf⟩ := hf
                                  refine gm_getR (C := RX12) (T := TX12) (N := 68) (j := 28) hx hb hts inT_12 hown hK hW k4 (by decide) rfl (by decide) rfl (hts _ kw_1344) rfl dX12_retain_352 hb36 ?_
                                  refine lv_iload_n hx hb dX12_retain_355 rfl (lv_at hl 1 rfl) ?_
                                  obtain ⟨k37, hf⟩ := hf
                                  obtain ⟨h38, hf⟩ := hf
                                  refine gm_iald hx hb hK hW k37 h38 dX12_retain_356 ?_
                                  refine lv_icmp_ge (tgt := 420) hx hb dX12_retain_357 (by decide) (fun c39 => ?_) (fun c39 => ?_)
                                  · replace hf := hf.1 c39
                                    refine lv_aload_n hx hb dX12_retain_420 rfl (lv_at hl 0 rfl) ?_
                                    obtain ⟨b40, hb40, hf⟩ := hf
                                    refine gm_getR (C := RX12) (T := TX12) (N := 68) (j := 28) hx hb hts inT_12 hown hK hW k4 (by decide) rfl (by decide) rfl (hts _ kw_1344) rfl dX12_retain_421 hb40 ?_
                                    refine lv_iload_n hx hb dX12_retain_424 rfl (lv_at hl 1 rfl) ?_
                                    refine lv_dup2_11 hx hb dX12_retain_425 rfl rfl ?_
                                    obtain ⟨k41, hf⟩ := hf
                                    obtain ⟨h42, hf⟩ := hf
                                    refine gm_iald hx hb hK hW k41 h42 dX12_retain_426 ?_
                                    refine lv_iload hx hb dX12_retain_427 (lv_at hl 2 rfl) ?_
                                    refine lv_isub hx hb dX12_retain_429 ?_
                                    obtain ⟨h43, hf⟩ := hf
                                    refine gm_iast hx hb hK hW hS k41 h43 dX12_retain_430 (fun H locs M44 eM44 hW hS => ?_)
                                    replace hf := hf M44 eM44
                                    exact j431 _ _ _ _ (lv_sub hl [0, 2] rfl) hW hS hf
                                  · replace hf := hf.2 c39
                                    refine lv_aload_n hx hb dX12_retain_360 rfl (lv_at hl 0 rfl) ?_
                                    obtain ⟨b45, hb45, hf⟩ := hf
                                    refine gm_getR (C := RX12) (T := TX12) (N := 68) (j := 29) hx hb hts inT_12 hown hK hW k4 (by decide) rfl (by decide) rfl (hts _ kw_1345) rfl dX12_retain_361 hb45 ?_
                                    refine lv_bipush (v := 60) hx hb dX12_retain_364 (by decide +kernel) ?_
                                    refine lv_iload_n hx hb dX12_retain_366 rfl (lv_at hl 1 rfl) ?_
                                    refine lv_imul hx hb dX12_retain_367 ?_
                                    refine lv_iload hx hb dX12_retain_368 (lv_at hl 3 rfl) ?_
                                    refine lv_iadd hx hb dX12_retain_370 ?_
                                    refine lv_iload hx hb dX12_retain_371 (lv_at hl 2 rfl) ?_
                                    refine lv_isub hx hb dX12_retain_373 ?_
                                    refine lv_aload_n hx hb dX12_retain_374 rfl (lv_at hl 0 rfl) ?_
                                    obtain ⟨b46, hb46, hf⟩ := hf
                                    refine gm_getR (C := RX12) (T := TX12) (N := 68) (j := 29) hx hb hts inT_12 hown hK hW k4 (by decide) rfl (by decide) rfl (hts _ kw_1345) rfl dX12_retain_375 hb46 ?_
                                    refine lv_bipush (v := 60) hx hb dX12_retain_378 (by decide +kernel) ?_
                                    refine lv_iload_n hx hb dX12_retain_380 rfl (lv_at hl 1 rfl) ?_
                                    refine lv_imul hx hb dX12_retain_381 ?_
                                    refine lv_iload hx hb dX12_retain_382 (lv_at hl 3 rfl) ?_
                                    refine lv_iadd hx hb dX12_retain_384 ?_
                                    obtain ⟨k47, hf⟩ := hf
                                    obtain ⟨h48, hf⟩ := hf
                                    refine gm_iald hx hb hK hW k47 h48 dX12_retain_385 ?_
                                    obtain ⟨k49, hf⟩ := hf
                                    obtain ⟨h50, hf⟩ := hf
                                    refine gm_iast hx hb hK hW hS k49 h50 dX12_retain_386 (fun H locs M51 eM51 hW hS => ?_)
                                    replace hf := hf M51 eM51
                                    refine lv_aload_n hx hb dX12_retain_387 rfl (lv_at hl 0 rfl) ?_
                                    obtain ⟨b52, hb52, hf⟩ := hf
                                    refine gm_getR (C := RX12) (T := TX12) (N := 68) (j := 30) hx hb hts inT_12 hown hK hW k4 (by decide) rfl (by decide) rfl (hts _ kw_1346) rfl dX12_retain_388 hb52 ?_
                                    refine lv_bipush (v := 60) hx hb dX12_retain_391 (by decide +kernel) ?_
                                    refine lv_iload_n hx hb dX12_retain_393 rfl (lv_at hl 1 rfl) ?_
                                    refine lv_imul hx hb dX12_retain_394 ?_
                                    refine lv_iload hx hb dX12_retain_395 (lv_at hl 3 rfl) ?_
                                    refine lv_iadd hx hb dX12_retain_397 ?_
                                    refine lv_iload hx hb dX12_retain_398 (lv_at hl 2 rfl) ?_
                                    refine lv_isub hx hb dX12_retain_400 ?_
                                    refine lv_aload_n hx hb dX12_retain_401 rfl (lv_at hl 0 rfl) ?_
                                    obtain ⟨b53, hb53, hf⟩ := hf
                                    refine gm_getR (C := RX12) (T := TX12) (N := 68) (j := 30) hx hb hts inT_12 hown hK hW k4 (by decide) rfl (by decide) rfl (hts _ kw_1346) rfl dX12_retain_402 hb53 ?_
                                    refine lv_bipush (v := 60) hx hb dX12_retain_405 (by decide +kernel) ?_
                                    refine lv_iload_n hx hb dX12_retain_407 rfl (lv_at hl 1 rfl) ?_
                                    refine lv_imul hx hb dX12_retain_408 ?_
                                    refine lv_iload hx hb dX12_retain_409 (lv_at hl 3 rfl) ?_
                                    refine lv_iadd hx hb dX12_retain_411 ?_
                                    obtain ⟨k54, hf⟩ := hf
                                    obtain ⟨h55, hf⟩ := hf
                                    refine gm_iald hx hb hK hW k54 h55 dX12_retain_412 ?_
                                    obtain ⟨k56, hf⟩ := hf
                                    obtain ⟨h57, hf⟩ := hf
                                    refine gm_iast hx hb hK hW hS k56 h57 dX12_retain_413 (fun H locs M58 eM58 hW hS => ?_)
                                    replace hf := hf M58 eM58
                                    obtain ⟨x59, ex59⟩ : ∃ y : Int32, y = x34 + 1 := ⟨_, rfl⟩
                                    replace hf := hf x59 ex59
                                    refine lv_iinc (v := x59) (lv' := [(9, .int x59), (0, .ref v0), (1, .int v1), (4, .int x13)]) hx hb dX12_retain_414 hl (k := 3) rfl (by rw [ex59]; rfl) (by decide) rfl (fun ls hl => ?_)
                                    refine lv_goto (tgt := 349) hx hb dX12_retain_417 (by decide) ?_
                                    exact ih349 _ _ _ _ _ (lv_sub hl [1, 2, 3, 0] rfl) hW hS hf
                              exact lp349 n349 _ _ _ _ _ (lv_sub hl [1, 2, 3, 0] rfl) hW hS hf
                            refine lv_if_ge (tgt := 342) hx hb dX12_retain_330 (by decide) (fun c60 => ?_) (fun c60 => ?_)
                            · replace hf := hf.1 (lg_ge.mp c60)
                              refine lv_lload hx hb dX12_retain_342 (lv_at hl 4 rfl) ?_
                              exact j344 _ _ _ _ (lv_sub hl [0, 1, 2] rfl) hW hS hf
                            · replace hf := hf.2 (fun z => c60 (lg_ge.mpr z))
                              refine lv_aload_n hx hb dX12_retain_333 rfl (lv_at hl 0 rfl) ?_
                              obtain ⟨b61, hb61, hf⟩ := hf
                              refine gm_getR (C := RX12) (T := TX12) (N := 68) (j := 27) hx hb hts inT_12 hown hK hW k4 (by decide) rfl (by decide) rfl (hts _ kw_1343) rfl dX12_retain_334 hb61 ?_
                              refine lv_iload_n hx hb dX12_retain_337 rfl (lv_at hl 1 rfl) ?_
                              obtain ⟨k62, hf⟩ := hf
                              obtain ⟨h63, hf⟩ := hf
                              refine gm_lald hx hb hK hW k62 h63 dX12_retain_338 ?_
                              refine lv_goto (tgt := 344) hx hb dX12_retain_339 (by decide) ?_
                              exact j344 _ _ _ _ (lv_sub hl [0, 1, 2] rfl) hW hS hf
                          · replace hf := hf.2 c27
                            refine lv_iconst (v := 0) hx hb dX12_retain_193 (by decide +kernel) ?_
                            refine lv_istore (lv' := [(10, .int 0), (0, .ref v0), (1, .int v1), (4, .int x13), (6, .int x23), (7, .long x24), (9, .int x25)]) hx hb dX12_retain_194 hl (by decide) rfl (fun ls hl => ?_)
                            refine lv_iconst (v := 0) hx hb dX12_retain_196 (by decide +kernel) ?_
                            refine lv_istore (lv' := [(11, .int 0), (10, .int 0), (0, .ref v0), (1, .int v1), (4, .int x13), (6, .int x23), (7, .long x24), (9, .int x25)]) hx hb dX12_retain_197 hl (by decide) rfl (fun ls hl => ?_)
                            obtain ⟨n199, hf⟩ := hf
                            have lp199 : ∀ (n199 : Nat) (x64 : Int32) (x65 : Int32) (H : Heap) (locs : List Loc) (ls : Array Slot), lv_has ls 12 [(0, .ref v0), (1, .int v1), (4, .int x13), (6, .int x23), (7, .long x24), (9, .int x25), (10, .int x64), (11, .int x65)] → Wd D cy A Y M26 H → va_S A s.heap H locs → LOOP2 (L_X12_retain_199 Y v0 v1 x13 x23 x24 x25 M26 (LOOP4 (L_X12_retain_184 Y v0 v1 Kn x13) n184)) n199 x64 x65 → W p l e rm_X12_retain s m args below meth c H locs 0 0 (MQ below (va_Qi Kn (BG D cy A Y) A) args s 0 0 A) (F0 m 199 ls []) := by
                              intro n199
                              induction n199 with
                              | zero => intro x64 x65 H locs ls hl hW hS hf; exact hf.elim
                              | succ n199 ih199 =>
                                intro x64 x65 H locs ls hl hW hS hf
                                replace hf : L_X12_retain_199 Y v0 v1 x13 x23 x24 x25 M26 (LOOP4 (L_X12_retain_184 Y v0 v1 Kn x13) n184) x64 x65 (LOOP2 (L_X12_retain_199 Y v0 v1 x13 x23 x24 x25 M26 (LOOP4 (L_X12_retain_184 Y v0 v1 Kn x13) n184)) n199) := hf
                                unfold L_X12_retain_199 at hf
                                refine lv_iload hx hb dX12_retain_199 (lv_at hl 7 rfl) ?_
                                refine lv_iload hx hb dX12_retain_201 (lv_at hl 2 rfl) ?_
                                refine lv_icmp_ge (tgt := 257) hx hb dX12_retain_203 (by decide) (fun c66 => ?_) (fun c66 => ?_)
                                · replace hf := hf.1 c66
                                  refine lv_lload hx hb dX12_retain_257 (lv_at hl 4 rfl) ?_
                                  refine lv_lconst (v := 0) hx hb dX12_retain_259 (by decide) ?_
                                  refine W.lcmp hx hb dX12_retain_260 ?_
                                  have j291 : ∀ (y67 : Int64) (M68 : Mm) (H : Heap) (locs : List Loc) (ls : Array Slot), lv_has ls 12 [(0, .ref v0), (1, .int v1), (4, .int x13), (6, .int x23), (9, .int x25), (10, .int x64)] → Wd D cy A Y M68 H → va_S A s.heap H locs → f_X12_retain_291 Y v0 x23 x25 (LOOP4 (L_X12_retain_184 Y v0 v1 Kn x13) n184) x64 y67 M68 → W p l e rm_X12_retain s m args below meth c H locs 0 0 (MQ below (va_Qi Kn (BG D cy A Y) A) args s 0 0 A) (F0 m 291 ls [.long y67]) := by
                                    intro y67 M68 H locs ls hl hW hS hf
                                    unfold f_X12_retain_291 at hf
                                    refine lv_lstore (lv' := [(7, .long y67), (0, .ref v0), (1, .int v1), (4, .int x13), (6, .int x23), (9, .int x25), (10, .int x64)]) hx hb dX12_retain_291 hl (by decide) rfl (fun ls hl => ?_)
                                    refine lv_iload hx hb dX12_retain_293 (lv_at hl 6 rfl) ?_
                                    have j309 : ∀ (x69 : Int32) (M70 : Mm) (H : Heap) (locs : List Loc) (ls : Array Slot), lv_has ls 12 [(0, .ref v0), (1, .int v1), (4, .int x13), (6, .int x69), (7, .long y67), (9, .int x25)] → Wd D cy A Y M70 H → va_S A s.heap H locs → f_X12_retain_309 Y x25 (LOOP4 (L_X12_retain_184 Y v0 v1 Kn x13) n184) y67 x69 M70 → W p l e rm_X12_retain s m args below meth c H locs 0 0 (MQ below (va_Qi Kn (BG D cy A Y) A) args s 0 0 A) (F0 m 309 ls []) := by
                                      intro x69 M70 H locs ls hl hW hS hf
                                      unfold f_X12_retain_309 at hf
                                      obtain ⟨x71, ex71⟩ : ∃ y : Int32, y = x25 + 1 := ⟨_, rfl⟩
                                      replace hf := hf x71 ex71
                                      refine lv_iinc (v := x71) (lv' := [(9, .int x71), (0, .ref v0), (1, .int v1), (4, .int x13), (6, .int x69), (7, .long y67)]) hx hb dX12_retain_309 hl (k := 5) rfl (by rw [ex71]; rfl) (by decide) rfl (fun ls hl => ?_)
                                      refine lv_goto (tgt := 184) hx hb dX12_retain_312 (by decide) ?_
                                      exact ih184 _ _ _ _ _ _ _ (lv_sub hl [1, 2, 3, 4, 5, 0] rfl) hW hS hf
                                    refine lv_if_ne (tgt := 309) hx hb dX12_retain_295 (by decide) (fun c72 => ?_) (fun c72 => ?_)
                                    · replace hf := hf.1 c72
                                      exact j309 _ _ _ _ _ (lv_sub hl [1, 2, 3, 4, 0, 5] rfl) hW hS hf
                                    · replace hf := hf.2 c72
                                      refine lv_aload_n hx hb dX12_retain_298 rfl (lv_at hl 1 rfl) ?_
                                      refine lv_iload hx hb dX12_retain_299 (lv_at hl 5 rfl) ?_
                                      refine lv_iload hx hb dX12_retain_301 (lv_at hl 4 rfl) ?_
                                      refine gm_cv (va_runV (As := [.int x25, .int x23]) (rest := []) ⟨hx, hb, hml, hown, hts⟩ (m_X12_copy l D cy tq _ Y _ _ _ _ _) (cwV 2 hts (good_V kw_1658 kw_1659 kw_1856 kw_12 kw_1660) rfl rfl rfl (by decide +kernel) ⟨Nat.le_of_ble_eq_true rfl, Nat.le_of_ble_eq_true rfl⟩) (gm_preV hK hW hC hS hA k4 (by decide) (q := (RX12, TX12, 68)) rfl rfl hf) rfl rfl hl.1 rfl (lv_room (Nat.le_of_ble_eq_true rfl)) dX12_retain_303 ⟨Nat.le_of_ble_eq_true rfl, Nat.le_of_ble_eq_true rfl⟩) hW hS hA (fun M73 H locs hW hS hf => ?_)
                                      obtain ⟨x74, ex74⟩ : ∃ y : Int32, y = x23 + 1 := ⟨_, rfl⟩
                                      replace hf := hf x74 ex74
                                      refine lv_iinc (v := x74) (lv' := [(6, .int x74), (7, .long y67), (0, .ref v0), (1, .int v1), (4, .int x13), (9, .int x25), (10, .int x64)]) hx hb dX12_retain_306 hl (k := 4) rfl (by rw [ex74]; rfl) (by decide) rfl (fun ls hl => ?_)
                                      exact j309 _ _ _ _ _ (lv_sub hl [2, 3, 4, 0, 1, 5] rfl) hW hS hf
                                  have j289 : ∀ (H : Heap) (locs : List Loc) (ls : Array Slot), lv_has ls 12 [(0, .ref v0), (1, .int v1), (4, .int x13), (6, .int x23), (7, .long x24), (9, .int x25), (10, .int x64)] → Wd D cy A Y M26 H → va_S A s.heap H locs → f_X12_retain_289 Y v0 x23 x24 x25 M26 (LOOP4 (L_X12_retain_184 Y v0 v1 Kn x13) n184) x64  → W p l e rm_X12_retain s m args below meth c H locs 0 0 (MQ below (va_Qi Kn (BG D cy A Y) A) args s 0 0 A) (F0 m 289 ls []) := by
                                    intro  H locs ls hl hW hS hf
                                    unfold f_X12_retain_289 at hf
                                    refine lv_lload hx hb dX12_retain_289 (lv_at hl 4 rfl) ?_
                                    exact j291 _ _ _ _ _ (lv_sub hl [0, 1, 2, 3, 5, 6] rfl) hW hS hf
                                  refine lv_if_ge (tgt := 289) hx hb dX12_retain_261 (by decide) (fun c75 => ?_) (fun c75 => ?_)
                                  · replace hf := hf.1 (lg_ge.mp c75)
                                    exact j289  _ _ _ (lv_sub hl [0, 1, 2, 3, 4, 5, 6] rfl) hW hS hf
                                  · replace hf := hf.2 (fun z => c75 (lg_ge.mpr z))
                                    refine lv_aload_n hx hb dX12_retain_264 rfl (lv_at hl 0 rfl) ?_
                                    obtain ⟨b76, hb76, hf⟩ := hf
                                    refine gm_getR (C := RX12) (T := TX12) (N := 68) (j := 19) hx hb hts inT_12 hown hK hW k4 (by decide) rfl (by decide) rfl (hts _ kw_1335) rfl dX12_retain_265 hb76 ?_
                                    refine lv_iload hx hb dX12_retain_268 (lv_at hl 5 rfl) ?_
                                    obtain ⟨k77, hf⟩ := hf
                                    obtain ⟨h78, hf⟩ := hf
                                    refine gm_iald hx hb hK hW k77 h78 dX12_retain_270 ?_
                                    refine lv_iload_n hx hb dX12_retain_271 rfl (lv_at hl 1 rfl) ?_
                                    refine lv_icmp_ne (tgt := 289) hx hb dX12_retain_272 (by decide) (fun c79 => ?_) (fun c79 => ?_)
                                    · replace hf := hf.1 c79
                                      exact j289  _ _ _ (lv_sub hl [0, 1, 2, 3, 4, 5, 6] rfl) hW hS hf
                                    · replace hf := hf.2 c79
                                      refine lv_iload hx hb dX12_retain_275 (lv_at hl 6 rfl) ?_
                                      refine lv_if_ne (tgt := 289) hx hb dX12_retain_277 (by decide) (fun c80 => ?_) (fun c80 => ?_)
                                      · replace hf := hf.1 c80
                                        exact j289  _ _ _ (lv_sub hl [0, 1, 2, 3, 4, 5, 6] rfl) hW hS hf
                                      · replace hf := hf.2 c80
                                        refine lv_aload_n hx hb dX12_retain_280 rfl (lv_at hl 0 rfl) ?_
                                        refine lv_iload hx hb dX12_retain_281 (lv_at hl 5 rfl) ?_
                                        refine gm_cl (va_runV (As := [.int x25]) (rest := []) ⟨hx, hb, hml, hown, hts⟩ (m_X12_base l D cy tq _ Y _ _ _ _) (cwV 1 hts (good_V kw_1588 kw_1589 kw_1845 kw_12 kw_1590) rfl rfl rfl (by decide +kernel) ⟨Nat.le_of_ble_eq_true rfl, Nat.le_of_ble_eq_true rfl⟩) (gm_preV hK hW hC hS hA k4 (by decide) (q := (RX12, TX12, 68)) rfl rfl hf) rfl rfl hl.1 rfl (lv_room (Nat.le_of_ble_eq_true rfl)) dX12_retain_283 ⟨Nat.le_of_ble_eq_true rfl, Nat.le_of_ble_eq_true rfl⟩) hW hS hA (fun r82 M81 H locs hW hS hf => ?_)
                                        refine lv_goto (tgt := 291) hx hb dX12_retain_286 (by decide) ?_
                                        exact j291 _ _ _ _ _ (lv_sub hl [0, 1, 2, 3, 5, 6] rfl) hW hS hf
                                · replace hf := hf.2 c66
                                  refine lv_iload hx hb dX12_retain_206 (lv_at hl 6 rfl) ?_
                                  have j249 : ∀ (y83 : Int32) (H : Heap) (locs : List Loc) (ls : Array Slot), lv_has ls 12 [(0, .ref v0), (1, .int v1), (4, .int x13), (6, .int x23), (7, .long x24), (9, .int x25), (11, .int x65)] → Wd D cy A Y M26 H → va_S A s.heap H locs → f_X12_retain_249 Y x65 (LOOP2 (L_X12_retain_199 Y v0 v1 x13 x23 x24 x25 M26 (LOOP4 (L_X12_retain_184 Y v0 v1 Kn x13) n184)) n199) y83 → W p l e rm_X12_retain s m args below meth c H locs 0 0 (MQ below (va_Qi Kn (BG D cy A Y) A) args s 0 0 A) (F0 m 249 ls [.int y83]) := by
                                    intro y83 H locs ls hl hW hS hf
                                    unfold f_X12_retain_249 at hf
                                    refine lv_istore (lv' := [(10, .int y83), (0, .ref v0), (1, .int v1), (4, .int x13), (6, .int x23), (7, .long x24), (9, .int x25), (11, .int x65)]) hx hb dX12_retain_249 hl (by decide) rfl (fun ls hl => ?_)
                                    obtain ⟨x84, ex84⟩ : ∃ y : Int32, y = x65 + 1 := ⟨_, rfl⟩
                                    replace hf := hf x84 ex84
                                    refine lv_iinc (v := x84) (lv' := [(11, .int x84), (10, .int y83), (0, .ref v0), (1, .int v1), (4, .int x13), (6, .int x23), (7, .long x24), (9, .int x25)]) hx hb dX12_retain_251 hl (k := 7) rfl (by rw [ex84]; rfl) (by decide) rfl (fun ls hl => ?_)
                                    refine lv_goto (tgt := 199) hx hb dX12_retain_254 (by decide) ?_
                                    exact ih199 _ _ _ _ _ (lv_sub hl [2, 3, 4, 5, 6, 7, 1, 0] rfl) hW hS hf
                                  have j244 : ∀ (H : Heap) (locs : List Loc) (ls : Array Slot), lv_has ls 12 [(0, .ref v0), (1, .int v1), (4, .int x13), (6, .int x23), (7, .long x24), (9, .int x25), (11, .int x65)] → Wd D cy A Y M26 H → va_S A s.heap H locs → f_X12_retain_244 Y x65 (LOOP2 (L_X12_retain_199 Y v0 v1 x13 x23 x24 x25 M26 (LOOP4 (L_X12_retain_184 Y v0 v1 Kn x13) n184)) n199)  → W p l e rm_X12_retain s m args below meth c H locs 0 0 (MQ below (va_Qi Kn (BG D cy A Y) A) args s 0 0 A) (F0 m 244 ls []) := by
                                    intro  H locs ls hl hW hS hf
                                    unfold f_X12_retain_244 at hf
                                    refine lv_iconst (v := 1) hx hb dX12_retain_244 (by decide +kernel) ?_
                                    refine lv_goto (tgt := 249) hx hb dX12_retain_245 (by decide) ?_
                                    exact j249 _ _ _ _ (lv_sub hl [0, 1, 2, 3, 4, 5, 6] rfl) hW hS hf
                                  refine lv_if_ne (tgt := 244) hx hb dX12_retain_208 (by decide) (fun c85 => ?_) (fun c85 => ?_)
                                  · replace hf := hf.1 c85
                                    exact j244  _ _ _ (lv_sub hl [0, 1, 2, 3, 4, 5, 7] rfl) hW hS hf
                                  · replace hf := hf.2 c85
                                    refine lv_aload_n hx hb dX12_retain_211 rfl (lv_at hl 0 rfl) ?_
                                    obtain ⟨b86, hb86, hf⟩ := hf
                                    refine gm_getR (C := RX12) (T := TX12) (N := 68) (j := 19) hx hb hts inT_12 hown hK hW k4 (by decide) rfl (by decide) rfl (hts _ kw_1335) rfl dX12_retain_212 hb86 ?_
                                    refine lv_iload hx hb dX12_retain_215 (lv_at hl 5 rfl) ?_
                                    obtain ⟨k87, hf⟩ := hf
                                    obtain ⟨h88, hf⟩ := hf
                                    refine gm_iald hx hb hK hW k87 h88 dX12_retain_217 ?_
                                    refine lv_iload_n hx hb dX12_retain_218 rfl (lv_at hl 1 rfl) ?_
                                    have j248 : ∀ (H : Heap) (locs : List Loc) (ls : Array Slot), lv_has ls 12 [(0, .ref v0), (1, .int v1), (4, .int x13), (6, .int x23), (7, .long x24), (9, .int x25), (11, .int x65)] → Wd D cy A Y M26 H → va_S A s.heap H locs → f_X12_retain_248 Y x65 (LOOP2 (L_X12_retain_199 Y v0 v1 x13 x23 x24 x25 M26 (LOOP4 (L_X12_retain_184 Y v0 v1 Kn x13) n184)) n199)  → W p l e rm_X12_retain s m args below meth c H locs 0 0 (MQ below (va_Qi Kn (BG D cy A Y) A) args s 0 0 A) (F0 m 248 ls []) := by
                                      intro  H locs ls hl hW hS hf
                                      unfold f_X12_retain_248 at hf
                                      refine lv_iconst (v := 0) hx hb dX12_retain_248 (by decide +kernel) ?_
                                      exact j249 _ _ _ _ (lv_sub hl [0, 1, 2, 3, 4, 5, 6] rfl) hW hS hf
                                    refine lv_icmp_ne (tgt := 248) hx hb dX12_retain_219 (by decide) (fun c89 => ?_) (fun c89 => ?_)
                                    · replace hf := hf.1 c89
                                      exact j248  _ _ _ (lv_sub hl [0, 1, 2, 3, 4, 5, 7] rfl) hW hS hf
                                    · replace hf := hf.2 c89
                                      refine lv_aload_n hx hb dX12_retain_222 rfl (lv_at hl 0 rfl) ?_
                                      obtain ⟨b90, hb90, hf⟩ := hf
                                      refine gm_getR (C := RX12) (T := TX12) (N := 68) (j := 22) hx hb hts inT_12 hown hK hW k4 (by decide) rfl (by decide) rfl (hts _ kw_1338) rfl dX12_retain_223 hb90 ?_
                                      refine lv_iload hx hb dX12_retain_226 (lv_at hl 5 rfl) ?_
                                      obtain ⟨k91, hf⟩ := hf
                                      obtain ⟨h92, hf⟩ := hf
                                      refine gm_iald hx hb hK hW k91 h92 dX12_retain_228 ?_
                                      refine lv_aload_n hx hb dX12_retain_229 rfl (lv_at hl 0 rfl) ?_
                                      obtain ⟨b93, hb93, hf⟩ := hf
                                      refine gm_getR (C := RX12) (T := TX12) (N := 68) (j := 29) hx hb hts inT_12 hown hK hW k4 (by decide) rfl (by decide) rfl (hts _ kw_1345) rfl dX12_retain_230 hb93 ?_
                                      refine lv_bipush (v := 60) hx hb dX12_retain_233 (by decide +kernel) ?_
                                      refine lv_iload_n hx hb dX12_retain_235 rfl (lv_at hl 1 rfl) ?_
                                      refine lv_imul hx hb dX12_retain_236 ?_
                                      refine lv_iload hx hb dX12_retain_237 (lv_at hl 7 rfl) ?_
                                      refine lv_iadd hx hb dX12_retain_239 ?_
                                      obtain ⟨k94, hf⟩ := hf
                                      obtain ⟨h95, hf⟩ := hf
                                      refine gm_iald hx hb hK hW k94 h95 dX12_retain_240 ?_
                                      refine lv_icmp_ne (tgt := 248) hx hb dX12_retain_241 (by decide) (fun c96 => ?_) (fun c96 => ?_)
                                      · replace hf := hf.1 c96
                                        exact j248  _ _ _ (lv_sub hl [0, 1, 2, 3, 4, 5, 7] rfl) hW hS hf
                                      · replace hf := hf.2 c96
                                        exact j244  _ _ _ (lv_sub hl [0, 1, 2, 3, 4, 5, 7] rfl) hW hS hf
                            exact lp199 n199 _ _ _ _ _ (lv_sub hl [2, 3, 4, 5, 6, 7, 1, 0] rfl) hW hS hf
                      exact lp184 n184 _ _ _ _ _ _ _ (lv_sub hl [3, 4, 7, 2, 1, 0] rfl) hW hS hf
                  · replace hf := hf.2 c16
                    refine lv_iconst (v := 0) hx hb dX12_retain_163 (by decide +kernel) ?_
                    exact gm_iret hx hb hr hlocks hW hS hf dX12_retain_164
                · replace hf := hf.2 c15
                  refine lv_iload hx hb dX12_retain_78 (lv_at hl 4 rfl) ?_
                  refine lv_iconst (v := 1) hx hb dX12_retain_80 (by decide +kernel) ?_
                  refine lv_iadd hx hb dX12_retain_81 ?_
                  refine lv_aload_n hx hb dX12_retain_82 rfl (lv_at hl 0 rfl) ?_
                  obtain ⟨b97, hb97, hf⟩ := hf
                  refine gm_getR (C := RX12) (T := TX12) (N := 68) (j := 28) hx hb hts inT_12 hown hK hW k4 (by decide) rfl (by decide) rfl (hts _ kw_1344) rfl dX12_retain_83 hb97 ?_
                  refine lv_iload_n hx hb dX12_retain_86 rfl (lv_at hl 1 rfl) ?_
                  obtain ⟨k98, hf⟩ := hf
                  obtain ⟨h99, hf⟩ := hf
                  refine gm_iald hx hb hK hW k98 h99 dX12_retain_87 ?_
                  have j114 : ∀ (y100 : Int32) (H : Heap) (locs : List Loc) (ls : Array Slot), lv_has ls 12 [(0, .ref v0), (1, .int v1), (2, .int v2), (3, .int x12), (4, .int x13)] → Wd D cy A Y M2 H → va_S A s.heap H locs → f_X12_retain_114 Y v0 v1 M2 x12 x13 (LOOP3 (L_X12_retain_73 Y v0 v1 v2 Kn M2) n73) y100 → W p l e rm_X12_retain s m args below meth c H locs 0 0 (MQ below (va_Qi Kn (BG D cy A Y) A) args s 0 0 A) (F0 m 114 ls [.int y100]) := by
                    intro y100 H locs ls hl hW hS hf
                    unfold f_X12_retain_114 at hf
                    refine lv_istore (lv' := [(5, .int y100), (0, .ref v0), (1, .int v1), (2, .int v2), (3, .int x12), (4, .int x13)]) hx hb dX12_retain_114 hl (by decide) rfl (fun ls hl => ?_)
                    refine lv_iload_n hx hb dX12_retain_116 rfl (lv_at hl 4 rfl) ?_
                    refine lv_iload hx hb dX12_retain_117 (lv_at hl 0 rfl) ?_
                    have j138 : ∀ (y101 : Int32) (H : Heap) (locs : List Loc) (ls : Array Slot), lv_has ls 12 [(0, .ref v0), (1, .int v1), (2, .int v2), (4, .int x13), (5, .int y100)] → Wd D cy A Y M2 H → va_S A s.heap H locs → f_X12_retain_138 Y x12 x13 (LOOP3 (L_X12_retain_73 Y v0 v1 v2 Kn M2) n73) y100 y101 → W p l e rm_X12_retain s m args below meth c H locs 0 0 (MQ below (va_Qi Kn (BG D cy A Y) A) args s 0 0 A) (F0 m 138 ls [.int y101, .int x12]) := by
                      intro y101 H locs ls hl hW hS hf
                      unfold f_X12_retain_138 at hf
                      refine lv_isub hx hb dX12_retain_138 ?_
                      refine lv_topi (fun x102 ex102 => ?_)
                      replace hf := hf x102 ex102
                      refine lv_istore_n (lv' := [(3, .int x102), (0, .ref v0), (1, .int v1), (2, .int v2), (4, .int x13), (5, .int y100)]) hx hb dX12_retain_139 rfl hl (by decide) rfl (fun ls hl => ?_)
                      refine lv_iload hx hb dX12_retain_140 (lv_at hl 4 rfl) ?_
                      refine lv_iload hx hb dX12_retain_142 (lv_at hl 5 rfl) ?_
                      have j152 : ∀ (y103 : Int32) (H : Heap) (locs : List Loc) (ls : Array Slot), lv_has ls 12 [(0, .ref v0), (1, .int v1), (2, .int v2), (3, .int x102), (5, .int y100)] → Wd D cy A Y M2 H → va_S A s.heap H locs → f_X12_retain_152 Y x13 (LOOP3 (L_X12_retain_73 Y v0 v1 v2 Kn M2) n73) y100 x102 y103 → W p l e rm_X12_retain s m args below meth c H locs 0 0 (MQ below (va_Qi Kn (BG D cy A Y) A) args s 0 0 A) (F0 m 152 ls [.int y103, .int x13]) := by
                        intro y103 H locs ls hl hW hS hf
                        unfold f_X12_retain_152 at hf
                        refine lv_iadd hx hb dX12_retain_152 ?_
                        refine lv_topi (fun x104 ex104 => ?_)
                        replace hf := hf x104 ex104
                        refine lv_istore (lv' := [(4, .int x104), (0, .ref v0), (1, .int v1), (2, .int v2), (3, .int x102), (5, .int y100)]) hx hb dX12_retain_153 hl (by decide) rfl (fun ls hl => ?_)
                        refine lv_goto (tgt := 73) hx hb dX12_retain_155 (by decide) ?_
                        exact ih73 _ _ _ _ _ _ (lv_sub hl [1, 2, 3, 4, 0, 5] rfl) hW hS hf
                      refine lv_if_eq (tgt := 151) hx hb dX12_retain_144 (by decide) (fun c105 => ?_) (fun c105 => ?_)
                      · replace hf := hf.1 c105
                        refine lv_iconst (v := 0) hx hb dX12_retain_151 (by decide +kernel) ?_
                        exact j152 _ _ _ _ (lv_sub hl [1, 2, 3, 0, 5] rfl) hW hS hf
                      · replace hf := hf.2 c105
                        refine lv_iconst (v := 1) hx hb dX12_retain_147 (by decide +kernel) ?_
                        refine lv_goto (tgt := 152) hx hb dX12_retain_148 (by decide) ?_
                        exact j152 _ _ _ _ (lv_sub hl [1, 2, 3, 0, 5] rfl) hW hS hf
                    refine lv_if_eq (tgt := 137) hx hb dX12_retain_119 (by decide) (fun c106 => ?_) (fun c106 => ?_)
                    · replace hf := hf.1 c106
                      refine lv_iconst (v := 0) hx hb dX12_retain_137 (by decide +kernel) ?_
                      exact j138 _ _ _ _ (lv_sub hl [1, 2, 3, 5, 0] rfl) hW hS hf
                    · replace hf := hf.2 c106
                      refine lv_aload_n hx hb dX12_retain_122 rfl (lv_at hl 1 rfl) ?_
                      obtain ⟨b107, hb107, hf⟩ := hf
                      refine gm_getR (C := RX12) (T := TX12) (N := 68) (j := 30) hx hb hts inT_12 hown hK hW k4 (by decide) rfl (by decide) rfl (hts _ kw_1346) rfl dX12_retain_123 hb107 ?_
                      refine lv_bipush (v := 60) hx hb dX12_retain_126 (by decide +kernel) ?_
                      refine lv_iload_n hx hb dX12_retain_128 rfl (lv_at hl 2 rfl) ?_
                      refine lv_imul hx hb dX12_retain_129 ?_
                      refine lv_iload hx hb dX12_retain_130 (lv_at hl 5 rfl) ?_
                      refine lv_iadd hx hb dX12_retain_132 ?_
                      obtain ⟨k108, hf⟩ := hf
                      obtain ⟨h109, hf⟩ := hf
                      refine gm_iald hx hb hK hW k108 h109 dX12_retain_133 ?_
                      refine lv_goto (tgt := 138) hx hb dX12_retain_134 (by decide) ?_
                      exact j138 _ _ _ _ (lv_sub hl [1, 2, 3, 5, 0] rfl) hW hS hf
                  have j113 : ∀ (H : Heap) (locs : List Loc) (ls : Array Slot), lv_has ls 12 [(0, .ref v0), (1, .int v1), (2, .int v2), (3, .int x12), (4, .int x13)] → Wd D cy A Y M2 H → va_S A s.heap H locs → f_X12_retain_113 Y v0 v1 M2 x12 x13 (LOOP3 (L_X12_retain_73 Y v0 v1 v2 Kn M2) n73)  → W p l e rm_X12_retain s m args below meth c H locs 0 0 (MQ below (va_Qi Kn (BG D cy A Y) A) args s 0 0 A) (F0 m 113 ls []) := by
                    intro  H locs ls hl hW hS hf
                    unfold f_X12_retain_113 at hf
                    refine lv_iconst (v := 0) hx hb dX12_retain_113 (by decide +kernel) ?_
                    exact j114 _ _ _ _ (lv_sub hl [0, 1, 2, 3, 4] rfl) hW hS hf
                  refine lv_icmp_ge (tgt := 113) hx hb dX12_retain_88 (by decide) (fun c110 => ?_) (fun c110 => ?_)
                  · replace hf := hf.1 c110
                    exact j113  _ _ _ (lv_sub hl [0, 1, 2, 3, 4] rfl) hW hS hf
                  · replace hf := hf.2 c110
                    refine lv_iload_n hx hb dX12_retain_91 rfl (lv_at hl 3 rfl) ?_
                    refine lv_aload_n hx hb dX12_retain_92 rfl (lv_at hl 0 rfl) ?_
                    obtain ⟨b111, hb111, hf⟩ := hf
                    refine gm_getR (C := RX12) (T := TX12) (N := 68) (j := 30) hx hb hts inT_12 hown hK hW k4 (by decide) rfl (by decide) rfl (hts _ kw_1346) rfl dX12_retain_93 hb111 ?_
                    refine lv_bipush (v := 60) hx hb dX12_retain_96 (by decide +kernel) ?_
                    refine lv_iload_n hx hb dX12_retain_98 rfl (lv_at hl 1 rfl) ?_
                    refine lv_imul hx hb dX12_retain_99 ?_
                    refine lv_iload hx hb dX12_retain_100 (lv_at hl 4 rfl) ?_
                    refine lv_iadd hx hb dX12_retain_102 ?_
                    obtain ⟨k112, hf⟩ := hf
                    obtain ⟨h113, hf⟩ := hf
                    refine gm_iald hx hb hK hW k112 h113 dX12_retain_103 ?_
                    refine lv_isub hx hb dX12_retain_104 ?_
                    refine lv_iload_n hx hb dX12_retain_105 rfl (lv_at hl 2 rfl) ?_
                    refine lv_icmp_lt (tgt := 113) hx hb dX12_retain_106 (by decide) (fun c114 => ?_) (fun c114 => ?_)
                    · replace hf := hf.1 c114
                      exact j113  _ _ _ (lv_sub hl [0, 1, 2, 3, 4] rfl) hW hS hf
                    · replace hf := hf.2 c114
                      refine lv_iconst (v := 1) hx hb dX12_retain_109 (by decide +kernel) ?_
                      refine lv_goto (tgt := 114) hx hb dX12_retain_110 (by decide) ?_
                      exact j114 _ _ _ _ (lv_sub hl [0, 1, 2, 3, 4] rfl) hW hS hf
            exact lp73 n73 _ _ _ _ _ _ (lv_sub hl [2, 3, 4, 5, 1, 0] rfl) hW hS hf
          · replace hf := hf.2 c11
            refine lv_iload_n hx hb dX12_retain_46 rfl (lv_at hl 3 rfl) ?_
            refine lv_aload_n hx hb dX12_retain_47 rfl (lv_at hl 0 rfl) ?_
            obtain ⟨b115, hb115, hf⟩ := hf
            refine gm_getR (C := RX12) (T := TX12) (N := 68) (j := 30) hx hb hts inT_12 hown hK hW k4 (by decide) rfl (by decide) rfl (hts _ kw_1346) rfl dX12_retain_48 hb115 ?_
            refine lv_bipush (v := 60) hx hb dX12_retain_51 (by decide +kernel) ?_
            refine lv_iload_n hx hb dX12_retain_53 rfl (lv_at hl 1 rfl) ?_
            refine lv_imul hx hb dX12_retain_54 ?_
            refine lv_iload hx hb dX12_retain_55 (lv_at hl 4 rfl) ?_
            refine lv_iadd hx hb dX12_retain_57 ?_
            obtain ⟨k116, hf⟩ := hf
            obtain ⟨h117, hf⟩ := hf
            refine gm_iald hx hb hK hW k116 h117 dX12_retain_58 ?_
            refine lv_iadd hx hb dX12_retain_59 ?_
            refine lv_topi (fun x118 ex118 => ?_)
            replace hf := hf x118 ex118
            refine lv_istore_n (lv' := [(3, .int x118), (0, .ref v0), (1, .int v1), (2, .int v2), (4, .int x7)]) hx hb dX12_retain_60 rfl hl (by decide) rfl (fun ls hl => ?_)
            obtain ⟨x119, ex119⟩ : ∃ y : Int32, y = x7 + 1 := ⟨_, rfl⟩
            replace hf := hf x119 ex119
            refine lv_iinc (v := x119) (lv' := [(4, .int x119), (3, .int x118), (0, .ref v0), (1, .int v1), (2, .int v2)]) hx hb dX12_retain_61 hl (k := 4) rfl (by rw [ex119]; rfl) (by decide) rfl (fun ls hl => ?_)
            refine lv_goto (tgt := 35) hx hb dX12_retain_64 (by decide) ?_
            exact ih35 _ _ _ _ _ (lv_sub hl [2, 3, 4, 1, 0] rfl) hW hS hf
      exact lp35 n35 _ _ _ _ _ (lv_sub hl [2, 3, 4, 1, 0] rfl) hW hS hf
    · replace hf := hf.2 c5
      refine lv_iconst (v := 0) hx hb dX12_retain_28 (by decide +kernel) ?_
      exact gm_iret hx hb hr hlocks hW hS hf dX12_retain_29
  have j21 : ∀ (H : Heap) (locs : List Loc) (ls : Array Slot), lv_has ls 12 [(0, .ref v0), (1, .int v1), (2, .int v2)] → Wd D cy A Y M H → va_S A s.heap H locs → f_X12_retain_21 Y v0 v1 v2 M Kn  → W p l e rm_X12_retain s m args below meth c H locs 0 0 (MQ below (va_Qi Kn (BG D cy A Y) A) args s 0 0 A) (F0 m 21 ls [.ref v0]) := by
    intro  H locs ls hl hW hS hf
    unfold f_X12_retain_21 at hf
    refine lv_iconst (v := 0) hx hb dX12_retain_21 (by decide +kernel) ?_
    exact j22 _ _ _ _ (lv_sub hl [0, 1, 2] rfl) hW hS hf
  refine lv_if_lt (tgt := 21) hx hb dX12_retain_2 (by decide) (fun c120 => ?_) (fun c120 => ?_)
  · replace hf := hf.1 c120
    exact j21  _ _ _ (lv_sub hl [0, 1, 2] rfl) hW hS hf
  · replace hf := hf.2 c120
    refine lv_iload_n hx hb dX12_retain_5 rfl (lv_at hl 1 rfl) ?_
    refine lv_aload_n hx hb dX12_retain_6 rfl (lv_at hl 0 rfl) ?_
    obtain ⟨k121, hf⟩ := hf
    refine gm_getI (C := RX12) (T := TX12) (N := 68) (j := 1) hx hb hts inT_12 hown hK hW k121 (by decide) rfl (by decide) rfl (hts _ kw_1317) rfl dX12_retain_7 ?_
    refine lv_icmp_ge (tgt := 21) hx hb dX12_retain_10 (by decide) (fun c122 => ?_) (fun c122 => ?_)
    · replace hf := hf.1 c122
      exact j21  _ _ _ (lv_sub hl [0, 1, 2] rfl) hW hS hf
    · replace hf := hf.2 c122
      refine lv_iload_n hx hb dX12_retain_13 rfl (lv_at hl 2 rfl) ?_
      refine lv_if_lt (tgt := 21) hx hb dX12_retain_14 (by decide) (fun c123 => ?_) (fun c123 => ?_)
      · replace hf := hf.1 c123
        exact j21  _ _ _ (lv_sub hl [0, 1, 2] rfl) hW hS hf
      · replace hf := hf.2 c123
        refine lv_iconst (v := 1) hx hb dX12_retain_17 (by decide +kernel) ?_
        refine lv_goto (tgt := 22) hx hb dX12_retain_18 (by decide) ?_
        exact j22 _ _ _ _ (lv_sub hl [0, 1, 2] rfl) hW hS hf

abbrev rm_X12_open : Room := { frames := 2, cells := 0, slots := 0, locals := 80 }
def f_X12_open_31 (Y : Ly) (M : Mm) (Kn : Int32 → Mm → Prop) (y5 : Int32) : Prop :=
  Kn y5 M
def f_X12_open (Y : Ly) (v0 : Nat) (v1 : Int32) (M : Mm) (Kn : Int32 → Mm → Prop) : Prop :=
  yK Y v0 = 12 ∧ (∃ b2 : Nat, mR M v0 28 = some b2 ∧ (yK Y b2 = 101 ∧ (vp_in v1 (yN Y b2) ∧ ((¬ (mI M b2 v1.toNatClampNeg) = 0 → (∃ b7 : Nat, mR M v0 29 = some b7 ∧ (∃ b8 : Nat, mR M v0 28 = some b8 ∧ (yK Y b8 = 101 ∧ (vp_in v1 (yN Y b8) ∧ (yK Y b7 = 101 ∧ (vp_in (((60 * v1) + (mI M b8 v1.toNatClampNeg)) - 1) (yN Y b7) ∧ (f_X12_open_31 Y M Kn (mI M b7 (((60 * v1) + (mI M b8 v1.toNatClampNeg)) - 1).toNatClampNeg))))))))) ∧ ((mI M b2 v1.toNatClampNeg) = 0 → (f_X12_open_31 Y M Kn (-1)))))))
set_option maxHeartbeats 4000000 in
set_option maxRecDepth 100000 in
theorem m_X12_open (l : Launch) (D : va_G) (cy : Cy) (tq sz : Nat) (Y : Ly) (v0 : Nat) (v1 : Int32) (M : Mm) (Kn : Int32 → Mm → Prop) : Met l yX12_open (Cond.code yX12_open cX12_open 2 (some .int) :: TT) rm_X12_open (PcG D cy tq [.ref v0, .int v1] sz Y M (f_X12_open Y v0 v1 M Kn)) (va_Qi Kn (BG D cy (Am Y sz) Y) (Am Y sz)) 0 0 (Am Y sz) := by
  refine Met.ofW (cc := cX12_open) (maxL := 2) (ret := (some .int)) (by decide) rfl ?_
  intro p e s m args below meth c s₁ B hml hv
  obtain ⟨hargs, hsz, hW, hK, hC, hf⟩ := hv
  subst hsz
  have hx := B.exec
  have hb := B.bytes
  have hr := B.returns
  have hts : ∀ w ∈ TT, w.before args s = true := fun w h => atoms_spec (ws := Cond.code yX12_open cX12_open 2 (some .int) :: TT) B.pre w (List.mem_cons_of_mem _ h)
  have hown : s.vm.findClass RX12 = some m.cls := findClass_of_methodNamed B.named
  have hlocks := B.notSynchronized
  replace hW := Wd_self (sz := s.heap.size) hW
  generalize hAe : Am Y s.heap.size = A at hW hC ⊢
  have hA : ∀ q : Nat, s.heap.size ≤ q → A q := fun q h => by rw [← hAe]; exact Or.inr h
  clear hAe
  have hS : va_S A s.heap s.heap [] := va_S.rf
  obtain ⟨ls, hE, hl⟩ := gm_entry m [.ref v0, .int v1] (n := 2) hargs (Nat.le_of_ble_eq_true rfl)
  rw [hE]
  have hl : lv_has ls 2 [(0, .ref v0), (1, .int v1)] := hl
  show W p l e rm_X12_open s m args below meth c s.heap [] 0 0 (MQ below (va_Qi Kn (BG D cy A Y) A) args s 0 0 A) (F0 m 0 ls [])
  unfold f_X12_open at hf
  refine lv_aload_n hx hb dX12_open_0 rfl (lv_at hl 0 rfl) ?_
  obtain ⟨k1, hf⟩ := hf
  obtain ⟨b2, hb2, hf⟩ := hf
  refine gm_getR (C := RX12) (T := TX12) (N := 68) (j := 28) hx hb hts inT_12 hown hK hW k1 (by decide) rfl (by decide) rfl (hts _ kw_1344) rfl dX12_open_1 hb2 ?_
  refine lv_iload_n hx hb dX12_open_4 rfl (lv_at hl 1 rfl) ?_
  obtain ⟨k3, hf⟩ := hf
  obtain ⟨h4, hf⟩ := hf
  refine gm_iald hx hb hK hW k3 h4 dX12_open_5 ?_
  have j31 : ∀ (y5 : Int32) (H : Heap) (locs : List Loc) (ls : Array Slot), lv_has ls 2 [] → Wd D cy A Y M H → va_S A s.heap H locs → f_X12_open_31 Y M Kn y5 → W p l e rm_X12_open s m args below meth c H locs 0 0 (MQ below (va_Qi Kn (BG D cy A Y) A) args s 0 0 A) (F0 m 31 ls [.int y5]) := by
    intro y5 H locs ls hl hW hS hf
    unfold f_X12_open_31 at hf
    exact gm_iret hx hb hr hlocks hW hS hf dX12_open_31
  refine lv_if_ne (tgt := 13) hx hb dX12_open_6 (by decide) (fun c6 => ?_) (fun c6 => ?_)
  · replace hf := hf.1 c6
    refine lv_aload_n hx hb dX12_open_13 rfl (lv_at hl 0 rfl) ?_
    obtain ⟨b7, hb7, hf⟩ := hf
    refine gm_getR (C := RX12) (T := TX12) (N := 68) (j := 29) hx hb hts inT_12 hown hK hW k1 (by decide) rfl (by decide) rfl (hts _ kw_1345) rfl dX12_open_14 hb7 ?_
    refine lv_bipush (v := 60) hx hb dX12_open_17 (by decide +kernel) ?_
    refine lv_iload_n hx hb dX12_open_19 rfl (lv_at hl 1 rfl) ?_
    refine lv_imul hx hb dX12_open_20 ?_
    refine lv_aload_n hx hb dX12_open_21 rfl (lv_at hl 0 rfl) ?_
    obtain ⟨b8, hb8, hf⟩ := hf
    refine gm_getR (C := RX12) (T := TX12) (N := 68) (j := 28) hx hb hts inT_12 hown hK hW k1 (by decide) rfl (by decide) rfl (hts _ kw_1344) rfl dX12_open_22 hb8 ?_
    refine lv_iload_n hx hb dX12_open_25 rfl (lv_at hl 1 rfl) ?_
    obtain ⟨k9, hf⟩ := hf
    obtain ⟨h10, hf⟩ := hf
    refine gm_iald hx hb hK hW k9 h10 dX12_open_26 ?_
    refine lv_iadd hx hb dX12_open_27 ?_
    refine lv_iconst (v := 1) hx hb dX12_open_28 (by decide +kernel) ?_
    refine lv_isub hx hb dX12_open_29 ?_
    obtain ⟨k11, hf⟩ := hf
    obtain ⟨h12, hf⟩ := hf
    refine gm_iald hx hb hK hW k11 h12 dX12_open_30 ?_
    exact j31 _ _ _ _ (lv_sub hl [] rfl) hW hS hf
  · replace hf := hf.2 c6
    refine lv_iconst (v := -1) hx hb dX12_open_9 (by decide +kernel) ?_
    refine lv_goto (tgt := 31) hx hb dX12_open_10 (by decide) ?_
    exact j31 _ _ _ _ (lv_sub hl [] rfl) hW hS hf

abbrev rm_X12_isClosed : Room := { frames := 3, cells := 0, slots := 0, locals := 101 }
def f_X12_isClosed_29 (Y : Ly) (Kn : Int32 → Mm → Prop) (y5 : Int32) (M6 : Mm) : Prop :=
  bz y5 ∧ Kn y5 M6
def f_X12_isClosed_28 (Y : Ly) (Kn : Int32 → Mm → Prop) (M7 : Mm) : Prop :=
  f_X12_isClosed_29 Y Kn 0 M7
def f_X12_isClosed (Y : Ly) (v0 : Nat) (v1 : Int32) (v2 : Int32) (M : Mm) (Kn : Int32 → Mm → Prop) : Prop :=
  yK Y v0 = 12 ∧ (∃ b2 : Nat, mR M v0 19 = some b2 ∧ (yK Y b2 = 101 ∧ (vp_in v1 (yN Y b2) ∧ ((¬ (mI M b2 v1.toNatClampNeg) = v2 → (f_X12_isClosed_28 Y Kn M)) ∧ ((mI M b2 v1.toNatClampNeg) = v2 → (∃ b9 : Nat, mR M v0 22 = some b9 ∧ (yK Y b9 = 101 ∧ (vp_in v1 (yN Y b9) ∧ (f_X12_open Y v0 v2 M (fun r13 M12 => (((mI M b9 v1.toNatClampNeg) = r13 → (f_X12_isClosed_28 Y Kn M12)) ∧ (¬ ((mI M b9 v1.toNatClampNeg) = r13) → (f_X12_isClosed_29 Y Kn 1 M12)))))))))))))
set_option maxHeartbeats 4000000 in
set_option maxRecDepth 100000 in
theorem m_X12_isClosed (l : Launch) (D : va_G) (cy : Cy) (tq sz : Nat) (Y : Ly) (v0 : Nat) (v1 : Int32) (v2 : Int32) (M : Mm) (Kn : Int32 → Mm → Prop) : Met l yX12_isClosed (Cond.code yX12_isClosed cX12_isClosed 3 (some .boolean) :: TT) rm_X12_isClosed (PcG D cy tq [.ref v0, .int v1, .int v2] sz Y M (f_X12_isClosed Y v0 v1 v2 M Kn)) (va_Qi Kn (BG D cy (Am Y sz) Y) (Am Y sz)) 0 0 (Am Y sz) := by
  refine Met.ofW (cc := cX12_isClosed) (maxL := 3) (ret := (some .boolean)) (by decide) rfl ?_
  intro p e s m args below meth c s₁ B hml hv
  obtain ⟨hargs, hsz, hW, hK, hC, hf⟩ := hv
  subst hsz
  have hx := B.exec
  have hb := B.bytes
  have hr := B.returns
  have hts : ∀ w ∈ TT, w.before args s = true := fun w h => atoms_spec (ws := Cond.code yX12_isClosed cX12_isClosed 3 (some .boolean) :: TT) B.pre w (List.mem_cons_of_mem _ h)
  have hown : s.vm.findClass RX12 = some m.cls := findClass_of_methodNamed B.named
  have hlocks := B.notSynchronized
  replace hW := Wd_self (sz := s.heap.size) hW
  generalize hAe : Am Y s.heap.size = A at hW hC ⊢
  have hA : ∀ q : Nat, s.heap.size ≤ q → A q := fun q h => by rw [← hAe]; exact Or.inr h
  clear hAe
  have hS : va_S A s.heap s.heap [] := va_S.rf
  obtain ⟨ls, hE, hl⟩ := gm_entry m [.ref v0, .int v1, .int v2] (n := 3) hargs (Nat.le_of_ble_eq_true rfl)
  rw [hE]
  have hl : lv_has ls 3 [(0, .ref v0), (1, .int v1), (2, .int v2)] := hl
  show W p l e rm_X12_isClosed s m args below meth c s.heap [] 0 0 (MQ below (va_Qi Kn (BG D cy A Y) A) args s 0 0 A) (F0 m 0 ls [])
  unfold f_X12_isClosed at hf
  refine lv_aload_n hx hb dX12_isClosed_0 rfl (lv_at hl 0 rfl) ?_
  obtain ⟨k1, hf⟩ := hf
  obtain ⟨b2, hb2, hf⟩ := hf
  refine gm_getR (C := RX12) (T := TX12) (N := 68) (j := 19) hx hb hts inT_12 hown hK hW k1 (by decide) rfl (by decide) rfl (hts _ kw_1335) rfl dX12_isClosed_1 hb2 ?_
  refine lv_iload_n hx hb dX12_isClosed_4 rfl (lv_at hl 1 rfl) ?_
  obtain ⟨k3, hf⟩ := hf
  obtain ⟨h4, hf⟩ := hf
  refine gm_iald hx hb hK hW k3 h4 dX12_isClosed_5 ?_
  refine lv_iload_n hx hb dX12_isClosed_6 rfl (lv_at hl 2 rfl) ?_
  have j29 : ∀ (y5 : Int32) (M6 : Mm) (H : Heap) (locs : List Loc) (ls : Array Slot), lv_has ls 3 [] → Wd D cy A Y M6 H → va_S A s.heap H locs → f_X12_isClosed_29 Y Kn y5 M6 → W p l e rm_X12_isClosed s m args below meth c H locs 0 0 (MQ below (va_Qi Kn (BG D cy A Y) A) args s 0 0 A) (F0 m 29 ls [.int y5]) := by
    intro y5 M6 H locs ls hl hW hS hf
    unfold f_X12_isClosed_29 at hf
    exact gm_zret hx hb hr hlocks hW hS hf.1 hf.2 dX12_isClosed_29
  have j28 : ∀ (M7 : Mm) (H : Heap) (locs : List Loc) (ls : Array Slot), lv_has ls 3 [] → Wd D cy A Y M7 H → va_S A s.heap H locs → f_X12_isClosed_28 Y Kn M7 → W p l e rm_X12_isClosed s m args below meth c H locs 0 0 (MQ below (va_Qi Kn (BG D cy A Y) A) args s 0 0 A) (F0 m 28 ls []) := by
    intro M7 H locs ls hl hW hS hf
    unfold f_X12_isClosed_28 at hf
    refine lv_iconst (v := 0) hx hb dX12_isClosed_28 (by decide +kernel) ?_
    exact j29 _ _ _ _ _ (lv_sub hl [] rfl) hW hS hf
  refine lv_icmp_ne (tgt := 28) hx hb dX12_isClosed_7 (by decide) (fun c8 => ?_) (fun c8 => ?_)
  · replace hf := hf.1 c8
    exact j28 _ _ _ _ (lv_sub hl [] rfl) hW hS hf
  · replace hf := hf.2 c8
    refine lv_aload_n hx hb dX12_isClosed_10 rfl (lv_at hl 0 rfl) ?_
    obtain ⟨b9, hb9, hf⟩ := hf
    refine gm_getR (C := RX12) (T := TX12) (N := 68) (j := 22) hx hb hts inT_12 hown hK hW k1 (by decide) rfl (by decide) rfl (hts _ kw_1338) rfl dX12_isClosed_11 hb9 ?_
    refine lv_iload_n hx hb dX12_isClosed_14 rfl (lv_at hl 1 rfl) ?_
    obtain ⟨k10, hf⟩ := hf
    obtain ⟨h11, hf⟩ := hf
    refine gm_iald hx hb hK hW k10 h11 dX12_isClosed_15 ?_
    refine lv_aload_n hx hb dX12_isClosed_16 rfl (lv_at hl 0 rfl) ?_
    refine lv_iload_n hx hb dX12_isClosed_17 rfl (lv_at hl 2 rfl) ?_
    refine gm_ci (va_runV (As := [.int v2]) (rest := [.int (mI M b9 v1.toNatClampNeg)]) ⟨hx, hb, hml, hown, hts⟩ (m_X12_open l D cy tq _ Y _ _ _ _) (cwV 1 hts (good_V kw_1677 kw_1678 kw_1861 kw_12 kw_1679) rfl rfl rfl (by decide +kernel) ⟨Nat.le_of_ble_eq_true rfl, Nat.le_of_ble_eq_true rfl⟩) (gm_preV hK hW hC hS hA k1 (by decide) (q := (RX12, TX12, 68)) rfl rfl hf) rfl rfl hl.1 rfl (lv_room (Nat.le_of_ble_eq_true rfl)) dX12_isClosed_18 ⟨Nat.le_of_ble_eq_true rfl, Nat.le_of_ble_eq_true rfl⟩) hW hS hA (fun r13 M12 H locs hW hS hf => ?_)
    refine lv_icmp_eq (tgt := 28) hx hb dX12_isClosed_21 (by decide) (fun c14 => ?_) (fun c14 => ?_)
    · replace hf := hf.1 c14
      exact j28 _ _ _ _ (lv_sub hl [] rfl) hW hS hf
    · replace hf := hf.2 c14
      refine lv_iconst (v := 1) hx hb dX12_isClosed_24 (by decide +kernel) ?_
      refine lv_goto (tgt := 29) hx hb dX12_isClosed_25 (by decide) ?_
      exact j29 _ _ _ _ _ (lv_sub hl [] rfl) hW hS hf

abbrev rm_X12_list : Room := { frames := 5, cells := 0, slots := 0, locals := 153 }
def f_X12_list_180 (Y : Ly) (x3 : Int32) (again7 : Int32 → Mm → Prop) (M9 : Mm) : Prop :=
  ∀ x10 : Int32, x10 = x3 + 1 → (again7 x10 M9)
def f_X12_list_163 (Y : Ly) (v0 : Nat) (x13 : Int32) (again32 : Int32 → Mm → Prop) (M41 : Mm) (b42 : Nat) (y43 : Int32) : Prop :=
  yK Y b42 = 103 ∧ (vp_in (mI M41 v0 53) (yN Y b42) ∧ (bz y43 ∧ (∀ M47 : Mm, M47 = sI M41 b42 (m1 (mI M41 b42) (mI M41 v0 53).toNatClampNeg y43) → (∀ M48 : Mm, M48 = sI M47 v0 (m1 (mI M47 v0) 53 ((mI M47 v0 53) + 1)) → (∀ x49 : Int32, x49 = x13 + 1 → (again32 x49 M48))))))
def f_X12_list_162 (Y : Ly) (v0 : Nat) (x13 : Int32) (again32 : Int32 → Mm → Prop) (M41 : Mm) (b42 : Nat) : Prop :=
  f_X12_list_163 Y v0 x13 again32 M41 b42 0
def L_X12_list_32 (Y : Ly) (v0 : Nat) (x3 : Int32) (again7 : Int32 → Mm → Prop) (x13 : Int32) (M14 : Mm) (again32 : Int32 → Mm → Prop) : Prop :=
  f_X12_countOf Y v0 x3 M14 (fun r16 M15 => ((r16 ≤ x13 → (f_X12_list_180 Y x3 again7 M15)) ∧ (¬ (r16 ≤ x13) → (f_X12_firstTime Y v0 x3 M15 (fun r19 M18 => (f_X12_readRecord Y v0 r19 M18 (fun r21 M20 => (∃ b22 : Nat, mR M20 v0 54 = some b22 ∧ (yK Y b22 = 101 ∧ (vp_in (mI M20 v0 53) (yN Y b22) ∧ (∀ M25 : Mm, M25 = sI M20 b22 (m1 (mI M20 b22) (mI M20 v0 53).toNatClampNeg x3) → (∃ b26 : Nat, mR M25 v0 55 = some b26 ∧ (yK Y b26 = 101 ∧ (vp_in (mI M25 v0 53) (yN Y b26) ∧ (∀ M29 : Mm, M29 = sI M25 b26 (m1 (mI M25 b26) (mI M25 v0 53).toNatClampNeg (mI M25 v0 46)) → (∃ b30 : Nat, mR M29 v0 56 = some b30 ∧ (yK Y b30 = 101 ∧ (vp_in (mI M29 v0 53) (yN Y b30) ∧ (∀ M33 : Mm, M33 = sI M29 b30 (m1 (mI M29 b30) (mI M29 v0 53).toNatClampNeg (mI M29 v0 42)) → (∃ b34 : Nat, mR M33 v0 57 = some b34 ∧ (yK Y b34 = 101 ∧ (vp_in (mI M33 v0 53) (yN Y b34) ∧ (∀ M37 : Mm, M37 = sI M33 b34 (m1 (mI M33 b34) (mI M33 v0 53).toNatClampNeg (mI M33 v0 49)) → (∃ b38 : Nat, mR M37 v0 58 = some b38 ∧ (yK Y b38 = 101 ∧ (vp_in (mI M37 v0 53) (yN Y b38) ∧ (∀ M41 : Mm, M41 = sI M37 b38 (m1 (mI M37 b38) (mI M37 v0 53).toNatClampNeg ((mJ M37 v0 50).toInt32)) → (∃ b42 : Nat, mR M41 v0 59 = some b42 ∧ (((mJ M41 v0 50) < 0 → (f_X12_list_162 Y v0 x13 again32 M41 b42)) ∧ (¬ ((mJ M41 v0 50) < 0) → ((0 ≤ (mJ M41 v0 52) → (f_X12_list_162 Y v0 x13 again32 M41 b42)) ∧ (¬ (0 ≤ (mJ M41 v0 52)) → (((((mI M41 v0 4) - 1000).toInt64) < (mJ M41 v0 47) → (f_X12_list_162 Y v0 x13 again32 M41 b42)) ∧ (¬ ((((mI M41 v0 4) - 1000).toInt64) < (mJ M41 v0 47)) → (f_X12_list_163 Y v0 x13 again32 M41 b42 1)))))))))))))))))))))))))))))))))))
def L_X12_list_7 (Y : Ly) (v0 : Nat) (v1 : Int32) (Kn : Mm → Prop) (x3 : Int32) (M4 : Mm) (again7 : Int32 → Mm → Prop) : Prop :=
  ((mI M4 v0 18) ≤ x3 → (Kn M4)) ∧ (¬ ((mI M4 v0 18) ≤ x3) → (∃ b6 : Nat, mR M4 v0 19 = some b6 ∧ (yK Y b6 = 101 ∧ (vp_in x3 (yN Y b6) ∧ ((¬ (mI M4 b6 x3.toNatClampNeg) = v1 → (f_X12_list_180 Y x3 again7 M4)) ∧ ((mI M4 b6 x3.toNatClampNeg) = v1 → (f_X12_readsBatch Y v0 x3 M4 (fun M12 => (∃ n, LOOP2 (L_X12_list_32 Y v0 x3 again7) n 0 M12)))))))))
def f_X12_list (Y : Ly) (v0 : Nat) (v1 : Int32) (M : Mm) (Kn : Mm → Prop) : Prop :=
  yK Y v0 = 12 ∧ (∀ M2 : Mm, M2 = sI M v0 (m1 (mI M v0) 53 0) → (∃ n, LOOP2 (L_X12_list_7 Y v0 v1 Kn) n 0 M2))
set_option maxHeartbeats 4000000 in
set_option maxRecDepth 100000 in
theorem m_X12_list (l : Launch) (D : va_G) (cy : Cy) (tq sz : Nat) (Y : Ly) (v0 : Nat) (v1 : Int32) (M : Mm) (Kn : Mm → Prop) : Met l yX12_list (Cond.code yX12_list cX12_list 5 none :: TT) rm_X12_list (PcG D cy tq [.ref v0, .int v1] sz Y M (f_X12_list Y v0 v1 M Kn)) (va_Qv Kn (BG D cy (Am Y sz) Y) (Am Y sz)) 0 0 (Am Y sz) := by
  refine Met.ofW (cc := cX12_list) (maxL := 5) (ret := none) (by decide) rfl ?_
  intro p e s m args below meth c s₁ B hml hv
  obtain ⟨hargs, hsz, hW, hK, hC, hf⟩ := hv
  subst hsz
  have hx := B.exec
  have hb := B.bytes
  have hr := B.returns
  have hts : ∀ w ∈ TT, w.before args s = true := fun w h => atoms_spec (ws := Cond.code yX12_list cX12_list 5 none :: TT) B.pre w (List.mem_cons_of_mem _ h)
  have hown : s.vm.findClass RX12 = some m.cls := findClass_of_methodNamed B.named
  have hlocks := B.notSynchronized
  replace hW := Wd_self (sz := s.heap.size) hW
  generalize hAe : Am Y s.heap.size = A at hW hC ⊢
  have hA : ∀ q : Nat, s.heap.size ≤ q → A q := fun q h => by rw [← hAe]; exact Or.inr h
  clear hAe
  have hS : va_S A s.heap s.heap [] := va_S.rf
  obtain ⟨ls, hE, hl⟩ := gm_entry m [.ref v0, .int v1] (n := 5) hargs (Nat.le_of_ble_eq_true rfl)
  rw [hE]
  have hl : lv_has ls 5 [(0, .ref v0), (1, .int v1)] := hl
  show W p l e rm_X12_list s m args below meth c s.heap [] 0 0 (MQ below (va_Qv Kn (BG D cy A Y) A) args s 0 0 A) (F0 m 0 ls [])
  unfold f_X12_list at hf
  refine lv_aload_n hx hb dX12_list_0 rfl (lv_at hl 0 rfl) ?_
  refine lv_iconst (v := 0) hx hb dX12_list_1 (by decide +kernel) ?_
  obtain ⟨k1, hf⟩ := hf
  refine gm_putI (C := RX12) (T := TX12) (N := 68) (j := 53) hx hb hts inT_12 tyX12 tyX12_ok nmX12 hown hK hW hS k1 (by decide) rfl (by decide) rfl (hts _ kw_1369) rfl rfl rfl rfl dX12_list_2 (fun H locs M2 eM2 hW hS => ?_)
  replace hf := hf M2 eM2
  refine lv_iconst (v := 0) hx hb dX12_list_5 (by decide +kernel) ?_
  refine lv_istore_n (lv' := [(2, .int 0), (0, .ref v0), (1, .int v1)]) hx hb dX12_list_6 rfl hl (by decide) rfl (fun ls hl => ?_)
  obtain ⟨n7, hf⟩ := hf
  have lp7 : ∀ (n7 : Nat) (x3 : Int32) (M4 : Mm) (H : Heap) (locs : List Loc) (ls : Array Slot), lv_has ls 5 [(0, .ref v0), (1, .int v1), (2, .int x3)] → Wd D cy A Y M4 H → va_S A s.heap H locs → LOOP2 (L_X12_list_7 Y v0 v1 Kn) n7 x3 M4 → W p l e rm_X12_list s m args below meth c H locs 0 0 (MQ below (va_Qv Kn (BG D cy A Y) A) args s 0 0 A) (F0 m 7 ls []) := by
    intro n7
    induction n7 with
    | zero => intro x3 M4 H locs ls hl hW hS hf; exact hf.elim
    | succ n7 ih7 =>
      intro x3 M4 H locs ls hl hW hS hf
      replace hf : L_X12_list_7 Y v0 v1 Kn x3 M4 (LOOP2 (L_X12_list_7 Y v0 v1 Kn) n7) := hf
      unfold L_X12_list_7 at hf
      refine lv_iload_n hx hb dX12_list_7 rfl (lv_at hl 2 rfl) ?_
      refine lv_aload_n hx hb dX12_list_8 rfl (lv_at hl 0 rfl) ?_
      refine gm_getI (C := RX12) (T := TX12) (N := 68) (j := 18) hx hb hts inT_12 hown hK hW k1 (by decide) rfl (by decide) rfl (hts _ kw_1334) rfl dX12_list_9 ?_
      refine lv_icmp_ge (tgt := 186) hx hb dX12_list_12 (by decide) (fun c5 => ?_) (fun c5 => ?_)
      · replace hf := hf.1 c5
        exact gm_vret hx hb hr hlocks hW hS hf dX12_list_186
      · replace hf := hf.2 c5
        refine lv_aload_n hx hb dX12_list_15 rfl (lv_at hl 0 rfl) ?_
        obtain ⟨b6, hb6, hf⟩ := hf
        refine gm_getR (C := RX12) (T := TX12) (N := 68) (j := 19) hx hb hts inT_12 hown hK hW k1 (by decide) rfl (by decide) rfl (hts _ kw_1335) rfl dX12_list_16 hb6 ?_
        refine lv_iload_n hx hb dX12_list_19 rfl (lv_at hl 2 rfl) ?_
        obtain ⟨k7, hf⟩ := hf
        obtain ⟨h8, hf⟩ := hf
        refine gm_iald hx hb hK hW k7 h8 dX12_list_20 ?_
        refine lv_iload_n hx hb dX12_list_21 rfl (lv_at hl 1 rfl) ?_
        have j180 : ∀ (M9 : Mm) (H : Heap) (locs : List Loc) (ls : Array Slot), lv_has ls 5 [(0, .ref v0), (1, .int v1), (2, .int x3)] → Wd D cy A Y M9 H → va_S A s.heap H locs → f_X12_list_180 Y x3 (LOOP2 (L_X12_list_7 Y v0 v1 Kn) n7) M9 → W p l e rm_X12_list s m args below meth c H locs 0 0 (MQ below (va_Qv Kn (BG D cy A Y) A) args s 0 0 A) (F0 m 180 ls []) := by
          intro M9 H locs ls hl hW hS hf
          unfold f_X12_list_180 at hf
          obtain ⟨x10, ex10⟩ : ∃ y : Int32, y = x3 + 1 := ⟨_, rfl⟩
          replace hf := hf x10 ex10
          refine lv_iinc (v := x10) (lv' := [(2, .int x10), (0, .ref v0), (1, .int v1)]) hx hb dX12_list_180 hl (k := 2) rfl (by rw [ex10]; rfl) (by decide) rfl (fun ls hl => ?_)
          refine lv_goto (tgt := 7) hx hb dX12_list_183 (by decide) ?_
          exact ih7 _ _ _ _ _ (lv_sub hl [1, 2, 0] rfl) hW hS hf
        refine lv_icmp_ne (tgt := 180) hx hb dX12_list_22 (by decide) (fun c11 => ?_) (fun c11 => ?_)
        · replace hf := hf.1 c11
          exact j180 _ _ _ _ (lv_sub hl [0, 1, 2] rfl) hW hS hf
        · replace hf := hf.2 c11
          refine lv_aload_n hx hb dX12_list_25 rfl (lv_at hl 0 rfl) ?_
          refine lv_iload_n hx hb dX12_list_26 rfl (lv_at hl 2 rfl) ?_
          refine gm_cv (va_runV (As := [.int x3]) (rest := []) ⟨hx, hb, hml, hown, hts⟩ (m_X12_readsBatch l D cy tq _ Y _ _ _ _) (cwV 1 hts (good_V kw_1633 kw_1634 kw_1853 kw_12 kw_1635) rfl rfl rfl (by decide +kernel) ⟨Nat.le_of_ble_eq_true rfl, Nat.le_of_ble_eq_true rfl⟩) (gm_preV hK hW hC hS hA k1 (by decide) (q := (RX12, TX12, 68)) rfl rfl hf) rfl rfl hl.1 rfl (lv_room (Nat.le_of_ble_eq_true rfl)) dX12_list_27 ⟨Nat.le_of_ble_eq_true rfl, Nat.le_of_ble_eq_true rfl⟩) hW hS hA (fun M12 H locs hW hS hf => ?_)
          refine lv_iconst (v := 0) hx hb dX12_list_30 (by decide +kernel) ?_
          refine lv_istore_n (lv' := [(3, .int 0), (0, .ref v0), (1, .int v1), (2, .int x3)]) hx hb dX12_list_31 rfl hl (by decide) rfl (fun ls hl => ?_)
          obtain ⟨n32, hf⟩ := hf
          have lp32 : ∀ (n32 : Nat) (x13 : Int32) (M14 : Mm) (H : Heap) (locs : List Loc) (ls : Array Slot), lv_has ls 5 [(0, .ref v0), (1, .int v1), (2, .int x3), (3, .int x13)] → Wd D cy A Y M14 H → va_S A s.heap H locs → LOOP2 (L_X12_list_32 Y v0 x3 (LOOP2 (L_X12_list_7 Y v0 v1 Kn) n7)) n32 x13 M14 → W p l e rm_X12_list s m args below meth c H locs 0 0 (MQ below (va_Qv Kn (BG D cy A Y) A) args s 0 0 A) (F0 m 32 ls []) := by
            intro n32
            induction n32 with
            | zero => intro x13 M14 H locs ls hl hW hS hf; exact hf.elim
            | succ n32 ih32 =>
              intro x13 M14 H locs ls hl hW hS hf
              replace hf : L_X12_list_32 Y v0 x3 (LOOP2 (L_X12_list_7 Y v0 v1 Kn) n7) x13 M14 (LOOP2 (L_X12_list_32 Y v0 x3 (LOOP2 (L_X12_list_7 Y v0 v1 Kn) n7)) n32) := hf
              unfold L_X12_list_32 at hf
              refine lv_iload_n hx hb dX12_list_32 rfl (lv_at hl 3 rfl) ?_
              refine lv_aload_n hx hb dX12_list_33 rfl (lv_at hl 0 rfl) ?_
              refine lv_iload_n hx hb dX12_list_34 rfl (lv_at hl 2 rfl) ?_
              refine gm_ci (va_runV (As := [.int x3]) (rest := [.int x13]) ⟨hx, hb, hml, hown, hts⟩ (m_X12_countOf l D cy tq _ Y _ _ _ _) (cwV 1 hts (good_V kw_1615 kw_1616 kw_1851 kw_12 kw_1617) rfl rfl rfl (by decide +kernel) ⟨Nat.le_of_ble_eq_true rfl, Nat.le_of_ble_eq_true rfl⟩) (gm_preV hK hW hC hS hA k1 (by decide) (q := (RX12, TX12, 68)) rfl rfl hf) rfl rfl hl.1 rfl (lv_room (Nat.le_of_ble_eq_true rfl)) dX12_list_35 ⟨Nat.le_of_ble_eq_true rfl, Nat.le_of_ble_eq_true rfl⟩) hW hS hA (fun r16 M15 H locs hW hS hf => ?_)
              refine lv_icmp_ge (tgt := 180) hx hb dX12_list_38 (by decide) (fun c17 => ?_) (fun c17 => ?_)
              · replace hf := hf.1 c17
                exact j180 _ _ _ _ (lv_sub hl [0, 1, 2] rfl) hW hS hf
              · replace hf := hf.2 c17
                refine lv_aload_n hx hb dX12_list_41 rfl (lv_at hl 0 rfl) ?_
                refine lv_aload_n hx hb dX12_list_42 rfl (lv_at hl 0 rfl) ?_
                refine lv_iload_n hx hb dX12_list_43 rfl (lv_at hl 2 rfl) ?_
                refine gm_cl (va_runV (As := [.int x3]) (rest := [.ref v0]) ⟨hx, hb, hml, hown, hts⟩ (m_X12_firstTime l D cy tq _ Y _ _ _ _) (cwV 1 hts (good_V kw_1636 kw_1637 kw_1854 kw_12 kw_1638) rfl rfl rfl (by decide +kernel) ⟨Nat.le_of_ble_eq_true rfl, Nat.le_of_ble_eq_true rfl⟩) (gm_preV hK hW hC hS hA k1 (by decide) (q := (RX12, TX12, 68)) rfl rfl hf) rfl rfl hl.1 rfl (lv_room (Nat.le_of_ble_eq_true rfl)) dX12_list_44 ⟨Nat.le_of_ble_eq_true rfl, Nat.le_of_ble_eq_true rfl⟩) hW hS hA (fun r19 M18 H locs hW hS hf => ?_)
                refine gm_ci (va_runV (As := [.long r19]) (rest := []) ⟨hx, hb, hml, hown, hts⟩ (m_X12_readRecord l D cy tq _ Y _ _ _ _) (cwV 1 hts (good_V kw_1539 kw_1540 kw_1833 kw_12 kw_1541) rfl rfl rfl (by decide +kernel) ⟨Nat.le_of_ble_eq_true rfl, Nat.le_of_ble_eq_true rfl⟩) (gm_preV hK hW hC hS hA k1 (by decide) (q := (RX12, TX12, 68)) rfl rfl hf) rfl rfl hl.1 rfl (lv_room (Nat.le_of_ble_eq_true rfl)) dX12_list_47 ⟨Nat.le_of_ble_eq_true rfl, Nat.le_of_ble_eq_true rfl⟩) hW hS hA (fun r21 M20 H locs hW hS hf => ?_)
                refine lv_istore (lv' := [(4, .int r21), (0, .ref v0), (1, .int v1), (2, .int x3), (3, .int x13)]) hx hb dX12_list_50 hl (by decide) rfl (fun ls hl => ?_)
                refine lv_aload_n hx hb dX12_list_52 rfl (lv_at hl 1 rfl) ?_
                obtain ⟨b22, hb22, hf⟩ := hf
                refine gm_getR (C := RX12) (T := TX12) (N := 68) (j := 54) hx hb hts inT_12 hown hK hW k1 (by decide) rfl (by decide) rfl (hts _ kw_1370) rfl dX12_list_53 hb22 ?_
                refine lv_aload_n hx hb dX12_list_56 rfl (lv_at hl 1 rfl) ?_
                refine gm_getI (C := RX12) (T := TX12) (N := 68) (j := 53) hx hb hts inT_12 hown hK hW k1 (by decide) rfl (by decide) rfl (hts _ kw_1369) rfl dX12_list_57 ?_
                refine lv_iload_n hx hb dX12_list_60 rfl (lv_at hl 3 rfl) ?_
                obtain ⟨k23, hf⟩ := hf
                obtain ⟨h24, hf⟩ := hf
                refine gm_iast hx hb hK hW hS k23 h24 dX12_list_61 (fun H locs M25 eM25 hW hS => ?_)
                replace hf := hf M25 eM25
                refine lv_aload_n hx hb dX12_list_62 rfl (lv_at hl 1 rfl) ?_
                obtain ⟨b26, hb26, hf⟩ := hf
                refine gm_getR (C := RX12) (T := TX12) (N := 68) (j := 55) hx hb hts inT_12 hown hK hW k1 (by decide) rfl (by decide) rfl (hts _ kw_1371) rfl dX12_list_63 hb26 ?_
                refine lv_aload_n hx hb dX12_list_66 rfl (lv_at hl 1 rfl) ?_
                refine gm_getI (C := RX12) (T := TX12) (N := 68) (j := 53) hx hb hts inT_12 hown hK hW k1 (by decide) rfl (by decide) rfl (hts _ kw_1369) rfl dX12_list_67 ?_
                refine lv_aload_n hx hb dX12_list_70 rfl (lv_at hl 1 rfl) ?_
                refine gm_getI (C := RX12) (T := TX12) (N := 68) (j := 46) hx hb hts inT_12 hown hK hW k1 (by decide) rfl (by decide) rfl (hts _ kw_1362) rfl dX12_list_71 ?_
                obtain ⟨k27, hf⟩ := hf
                obtain ⟨h28, hf⟩ := hf
                refine gm_iast hx hb hK hW hS k27 h28 dX12_list_74 (fun H locs M29 eM29 hW hS => ?_)
                replace hf := hf M29 eM29
                refine lv_aload_n hx hb dX12_list_75 rfl (lv_at hl 1 rfl) ?_
                obtain ⟨b30, hb30, hf⟩ := hf
                refine gm_getR (C := RX12) (T := TX12) (N := 68) (j := 56) hx hb hts inT_12 hown hK hW k1 (by decide) rfl (by decide) rfl (hts _ kw_1372) rfl dX12_list_76 hb30 ?_
                refine lv_aload_n hx hb dX12_list_79 rfl (lv_at hl 1 rfl) ?_
                refine gm_getI (C := RX12) (T := TX12) (N := 68) (j := 53) hx hb hts inT_12 hown hK hW k1 (by decide) rfl (by decide) rfl (hts _ kw_1369) rfl dX12_list_80 ?_
                refine lv_aload_n hx hb dX12_list_83 rfl (lv_at hl 1 rfl) ?_
                refine gm_getI (C := RX12) (T := TX12) (N := 68) (j := 42) hx hb hts inT_12 hown hK hW k1 (by decide) rfl (by decide) rfl (hts _ kw_1358) rfl dX12_list_84 ?_
                obtain ⟨k31, hf⟩ := hf
                obtain ⟨h32, hf⟩ := hf
                refine gm_iast hx hb hK hW hS k31 h32 dX12_list_87 (fun H locs M33 eM33 hW hS => ?_)
                replace hf := hf M33 eM33
                refine lv_aload_n hx hb dX12_list_88 rfl (lv_at hl 1 rfl) ?_
                obtain ⟨b34, hb34, hf⟩ := hf
                refine gm_getR (C := RX12) (T := TX12) (N := 68) (j := 57) hx hb hts inT_12 hown hK hW k1 (by decide) rfl (by decide) rfl (hts _ kw_1373) rfl dX12_list_89 hb34 ?_
                refine lv_aload_n hx hb dX12_list_92 rfl (lv_at hl 1 rfl) ?_
                refine gm_getI (C := RX12) (T := TX12) (N := 68) (j := 53) hx hb hts inT_12 hown hK hW k1 (by decide) rfl (by decide) rfl (hts _ kw_1369) rfl dX12_list_93 ?_
                refine lv_aload_n hx hb dX12_list_96 rfl (lv_at hl 1 rfl) ?_
                refine gm_getI (C := RX12) (T := TX12) (N := 68) (j := 49) hx hb hts inT_12 hown hK hW k1 (by decide) rfl (by decide) rfl (hts _ kw_1365) rfl dX12_list_97 ?_
                obtain ⟨k35, hf⟩ := hf
                obtain ⟨h36, hf⟩ := hf
                refine gm_iast hx hb hK hW hS k35 h36 dX12_list_100 (fun H locs M37 eM37 hW hS => ?_)
                replace hf := hf M37 eM37
                refine lv_aload_n hx hb dX12_list_101 rfl (lv_at hl 1 rfl) ?_
                obtain ⟨b38, hb38, hf⟩ := hf
                refine gm_getR (C := RX12) (T := TX12) (N := 68) (j := 58) hx hb hts inT_12 hown hK hW k1 (by decide) rfl (by decide) rfl (hts _ kw_1374) rfl dX12_list_102 hb38 ?_
                refine lv_aload_n hx hb dX12_list_105 rfl (lv_at hl 1 rfl) ?_
                refine gm_getI (C := RX12) (T := TX12) (N := 68) (j := 53) hx hb hts inT_12 hown hK hW k1 (by decide) rfl (by decide) rfl (hts _ kw_1369) rfl dX12_list_106 ?_
                refine lv_aload_n hx hb dX12_list_109 rfl (lv_at hl 1 rfl) ?_
                refine gm_getJ (C := RX12) (T := TX12) (N := 68) (j := 50) hx hb hts inT_12 hown hK hW k1 (by decide) rfl (by decide) rfl (hts _ kw_1366) rfl dX12_list_110 ?_
                refine lv_l2i hx hb dX12_list_113 rfl ?_
                obtain ⟨k39, hf⟩ := hf
                obtain ⟨h40, hf⟩ := hf
                refine gm_iast hx hb hK hW hS k39 h40 dX12_list_114 (fun H locs M41 eM41 hW hS => ?_)
                replace hf := hf M41 eM41
                refine lv_aload_n hx hb dX12_list_115 rfl (lv_at hl 1 rfl) ?_
                obtain ⟨b42, hb42, hf⟩ := hf
                refine gm_getR (C := RX12) (T := TX12) (N := 68) (j := 59) hx hb hts inT_12 hown hK hW k1 (by decide) rfl (by decide) rfl (hts _ kw_1375) rfl dX12_list_116 hb42 ?_
                refine lv_aload_n hx hb dX12_list_119 rfl (lv_at hl 1 rfl) ?_
                refine gm_getI (C := RX12) (T := TX12) (N := 68) (j := 53) hx hb hts inT_12 hown hK hW k1 (by decide) rfl (by decide) rfl (hts _ kw_1369) rfl dX12_list_120 ?_
                refine lv_aload_n hx hb dX12_list_123 rfl (lv_at hl 1 rfl) ?_
                refine gm_getJ (C := RX12) (T := TX12) (N := 68) (j := 50) hx hb hts inT_12 hown hK hW k1 (by decide) rfl (by decide) rfl (hts _ kw_1366) rfl dX12_list_124 ?_
                refine lv_lconst (v := 0) hx hb dX12_list_127 (by decide) ?_
                refine W.lcmp hx hb dX12_list_128 ?_
                have j163 : ∀ (y43 : Int32) (H : Heap) (locs : List Loc) (ls : Array Slot), lv_has ls 5 [(0, .ref v0), (1, .int v1), (2, .int x3), (3, .int x13)] → Wd D cy A Y M41 H → va_S A s.heap H locs → f_X12_list_163 Y v0 x13 (LOOP2 (L_X12_list_32 Y v0 x3 (LOOP2 (L_X12_list_7 Y v0 v1 Kn) n7)) n32) M41 b42 y43 → W p l e rm_X12_list s m args below meth c H locs 0 0 (MQ below (va_Qv Kn (BG D cy A Y) A) args s 0 0 A) (F0 m 163 ls [.int y43, .int (mI M41 v0 53), .ref b42]) := by
                  intro y43 H locs ls hl hW hS hf
                  unfold f_X12_list_163 at hf
                  obtain ⟨k44, hf⟩ := hf
                  obtain ⟨h45, hf⟩ := hf
                  obtain ⟨z46, hf⟩ := hf
                  refine gm_zast hx hb hK hW hS k44 h45 (bz_v z46) dX12_list_163 (fun H locs M47 eM47 hW hS => ?_)
                  replace hf := hf M47 eM47
                  refine lv_aload_n hx hb dX12_list_164 rfl (lv_at hl 0 rfl) ?_
                  refine lv_dup hx hb dX12_list_165 rfl ?_
                  refine gm_getI (C := RX12) (T := TX12) (N := 68) (j := 53) hx hb hts inT_12 hown hK hW k1 (by decide) rfl (by decide) rfl (hts _ kw_1369) rfl dX12_list_166 ?_
                  refine lv_iconst (v := 1) hx hb dX12_list_169 (by decide +kernel) ?_
                  refine lv_iadd hx hb dX12_list_170 ?_
                  refine gm_putI (C := RX12) (T := TX12) (N := 68) (j := 53) hx hb hts inT_12 tyX12 tyX12_ok nmX12 hown hK hW hS k1 (by decide) rfl (by decide) rfl (hts _ kw_1369) rfl rfl rfl rfl dX12_list_171 (fun H locs M48 eM48 hW hS => ?_)
                  replace hf := hf M48 eM48
                  obtain ⟨x49, ex49⟩ : ∃ y : Int32, y = x13 + 1 := ⟨_, rfl⟩
                  replace hf := hf x49 ex49
                  refine lv_iinc (v := x49) (lv' := [(3, .int x49), (0, .ref v0), (1, .int v1), (2, .int x3)]) hx hb dX12_list_174 hl (k := 3) rfl (by rw [ex49]; rfl) (by decide) rfl (fun ls hl => ?_)
                  refine lv_goto (tgt := 32) hx hb dX12_list_177 (by decide) ?_
                  exact ih32 _ _ _ _ _ (lv_sub hl [1, 2, 3, 0] rfl) hW hS hf
                have j162 : ∀ (H : Heap) (locs : List Loc) (ls : Array Slot), lv_has ls 5 [(0, .ref v0), (1, .int v1), (2, .int x3), (3, .int x13)] → Wd D cy A Y M41 H → va_S A s.heap H locs → f_X12_list_162 Y v0 x13 (LOOP2 (L_X12_list_32 Y v0 x3 (LOOP2 (L_X12_list_7 Y v0 v1 Kn) n7)) n32) M41 b42  → W p l e rm_X12_list s m args below meth c H locs 0 0 (MQ below (va_Qv Kn (BG D cy A Y) A) args s 0 0 A) (F0 m 162 ls [.int (mI M41 v0 53), .ref b42]) := by
                  intro  H locs ls hl hW hS hf
                  unfold f_X12_list_162 at hf
                  refine lv_iconst (v := 0) hx hb dX12_list_162 (by decide +kernel) ?_
                  exact j163 _ _ _ _ (lv_sub hl [0, 1, 2, 3] rfl) hW hS hf
                refine lv_if_lt (tgt := 162) hx hb dX12_list_129 (by decide) (fun c50 => ?_) (fun c50 => ?_)
                · replace hf := hf.1 (lg_lt.mp c50)
                  exact j162  _ _ _ (lv_sub hl [1, 2, 3, 4] rfl) hW hS hf
                · replace hf := hf.2 (fun z => c50 (lg_lt.mpr z))
                  refine lv_aload_n hx hb dX12_list_132 rfl (lv_at hl 1 rfl) ?_
                  refine gm_getJ (C := RX12) (T := TX12) (N := 68) (j := 52) hx hb hts inT_12 hown hK hW k1 (by decide) rfl (by decide) rfl (hts _ kw_1368) rfl dX12_list_133 ?_
                  refine lv_lconst (v := 0) hx hb dX12_list_136 (by decide) ?_
                  refine W.lcmp hx hb dX12_list_137 ?_
                  refine lv_if_ge (tgt := 162) hx hb dX12_list_138 (by decide) (fun c51 => ?_) (fun c51 => ?_)
                  · replace hf := hf.1 (lg_ge.mp c51)
                    exact j162  _ _ _ (lv_sub hl [1, 2, 3, 4] rfl) hW hS hf
                  · replace hf := hf.2 (fun z => c51 (lg_ge.mpr z))
                    refine lv_aload_n hx hb dX12_list_141 rfl (lv_at hl 1 rfl) ?_
                    refine gm_getJ (C := RX12) (T := TX12) (N := 68) (j := 47) hx hb hts inT_12 hown hK hW k1 (by decide) rfl (by decide) rfl (hts _ kw_1363) rfl dX12_list_142 ?_
                    refine lv_aload_n hx hb dX12_list_145 rfl (lv_at hl 1 rfl) ?_
                    refine gm_getI (C := RX12) (T := TX12) (N := 68) (j := 4) hx hb hts inT_12 hown hK hW k1 (by decide) rfl (by decide) rfl (hts _ kw_1320) rfl dX12_list_146 ?_
                    refine lv_sipush (v := 1000) hx hb dX12_list_149 (by decide +kernel) ?_
                    refine lv_isub hx hb dX12_list_152 ?_
                    refine lv_i2l hx hb dX12_list_153 rfl ?_
                    refine W.lcmp hx hb dX12_list_154 ?_
                    refine lv_if_gt (tgt := 162) hx hb dX12_list_155 (by decide) (fun c52 => ?_) (fun c52 => ?_)
                    · replace hf := hf.1 (lg_gt.mp c52)
                      exact j162  _ _ _ (lv_sub hl [1, 2, 3, 4] rfl) hW hS hf
                    · replace hf := hf.2 (fun z => c52 (lg_gt.mpr z))
                      refine lv_iconst (v := 1) hx hb dX12_list_158 (by decide +kernel) ?_
                      refine lv_goto (tgt := 163) hx hb dX12_list_159 (by decide) ?_
                      exact j163 _ _ _ _ (lv_sub hl [1, 2, 3, 4] rfl) hW hS hf
          exact lp32 n32 _ _ _ _ _ (lv_sub hl [1, 2, 3, 0] rfl) hW hS hf
  exact lp7 n7 _ _ _ _ _ (lv_sub hl [1, 2, 0] rfl) hW hS hf

abbrev rm_X12_isSameKey : Room := { frames := 2, cells := 0, slots := 0, locals := 80 }
def f_X12_isSameKey_82 (Y : Ly) (M : Mm) (Kn : Int32 → Mm → Prop) (x9 : Int32) : Prop :=
  bz x9 ∧ Kn x9 M
def f_X12_isSameKey_75 (Y : Ly) (x10 : Int32) (again24 : Int32 → Int32 → Prop) (y28 : Int32) : Prop :=
  ∀ x29 : Int32, x29 = x10 + 1 → (again24 y28 x29)
def L_X12_isSameKey_24 (Y : Ly) (v0 : Nat) (v1 : Int32) (v2 : Int32) (M : Mm) (Kn : Int32 → Mm → Prop) (x9 : Int32) (x10 : Int32) (again24 : Int32 → Int32 → Prop) : Prop :=
  ∃ b11 : Nat, mR M v0 58 = some b11 ∧ (yK Y b11 = 101 ∧ (vp_in v1 (yN Y b11) ∧ (((mI M b11 v1.toNatClampNeg) ≤ x10 → (f_X12_isSameKey_82 Y M Kn x9)) ∧ (¬ ((mI M b11 v1.toNatClampNeg) ≤ x10) → ((x9 = 0 → (f_X12_isSameKey_82 Y M Kn x9)) ∧ (¬ (x9 = 0) → (∃ b16 : Nat, mR M v0 23 = some b16 ∧ (∃ b17 : Nat, mR M v0 57 = some b17 ∧ (yK Y b17 = 101 ∧ (vp_in v1 (yN Y b17) ∧ (yK Y b16 = 101 ∧ (vp_in ((mI M b17 v1.toNatClampNeg) + x10) (yN Y b16) ∧ (∃ b22 : Nat, mR M v0 23 = some b22 ∧ (∃ b23 : Nat, mR M v0 57 = some b23 ∧ (yK Y b23 = 101 ∧ (vp_in v2 (yN Y b23) ∧ (yK Y b22 = 101 ∧ (vp_in ((mI M b23 v2.toNatClampNeg) + x10) (yN Y b22) ∧ ((¬ (mI M b16 ((mI M b17 v1.toNatClampNeg) + x10).toNatClampNeg) = (mI M b22 ((mI M b23 v2.toNatClampNeg) + x10).toNatClampNeg) → (f_X12_isSameKey_75 Y x10 again24 0)) ∧ ((mI M b16 ((mI M b17 v1.toNatClampNeg) + x10).toNatClampNeg) = (mI M b22 ((mI M b23 v2.toNatClampNeg) + x10).toNatClampNeg) → (f_X12_isSameKey_75 Y x10 again24 1)))))))))))))))))))))
def f_X12_isSameKey_20 (Y : Ly) (v0 : Nat) (v1 : Int32) (v2 : Int32) (M : Mm) (Kn : Int32 → Mm → Prop) (y8 : Int32) : Prop :=
  ∃ n, LOOP2 (L_X12_isSameKey_24 Y v0 v1 v2 M Kn) n y8 0
def f_X12_isSameKey (Y : Ly) (v0 : Nat) (v1 : Int32) (v2 : Int32) (M : Mm) (Kn : Int32 → Mm → Prop) : Prop :=
  yK Y v0 = 12 ∧ (∃ b2 : Nat, mR M v0 58 = some b2 ∧ (yK Y b2 = 101 ∧ (vp_in v1 (yN Y b2) ∧ (∃ b5 : Nat, mR M v0 58 = some b5 ∧ (yK Y b5 = 101 ∧ (vp_in v2 (yN Y b5) ∧ ((¬ (mI M b2 v1.toNatClampNeg) = (mI M b5 v2.toNatClampNeg) → (f_X12_isSameKey_20 Y v0 v1 v2 M Kn 0)) ∧ ((mI M b2 v1.toNatClampNeg) = (mI M b5 v2.toNatClampNeg) → (f_X12_isSameKey_20 Y v0 v1 v2 M Kn 1)))))))))
set_option maxHeartbeats 4000000 in
set_option maxRecDepth 100000 in
theorem m_X12_isSameKey (l : Launch) (D : va_G) (cy : Cy) (tq sz : Nat) (Y : Ly) (v0 : Nat) (v1 : Int32) (v2 : Int32) (M : Mm) (Kn : Int32 → Mm → Prop) : Met l yX12_isSameKey (Cond.code yX12_isSameKey cX12_isSameKey 5 (some .boolean) :: TT) rm_X12_isSameKey (PcG D cy tq [.ref v0, .int v1, .int v2] sz Y M (f_X12_isSameKey Y v0 v1 v2 M Kn)) (va_Qi Kn (BG D cy (Am Y sz) Y) (Am Y sz)) 0 0 (Am Y sz) := by
  refine Met.ofW (cc := cX12_isSameKey) (maxL := 5) (ret := (some .boolean)) (by decide) rfl ?_
  intro p e s m args below meth c s₁ B hml hv
  obtain ⟨hargs, hsz, hW, hK, hC, hf⟩ := hv
  subst hsz
  have hx := B.exec
  have hb := B.bytes
  have hr := B.returns
  have hts : ∀ w ∈ TT, w.before args s = true := fun w h => atoms_spec (ws := Cond.code yX12_isSameKey cX12_isSameKey 5 (some .boolean) :: TT) B.pre w (List.mem_cons_of_mem _ h)
  have hown : s.vm.findClass RX12 = some m.cls := findClass_of_methodNamed B.named
  have hlocks := B.notSynchronized
  replace hW := Wd_self (sz := s.heap.size) hW
  generalize hAe : Am Y s.heap.size = A at hW hC ⊢
  have hA : ∀ q : Nat, s.heap.size ≤ q → A q := fun q h => by rw [← hAe]; exact Or.inr h
  clear hAe
  have hS : va_S A s.heap s.heap [] := va_S.rf
  obtain ⟨ls, hE, hl⟩ := gm_entry m [.ref v0, .int v1, .int v2] (n := 5) hargs (Nat.le_of_ble_eq_true rfl)
  rw [hE]
  have hl : lv_has ls 5 [(0, .ref v0), (1, .int v1), (2, .int v2)] := hl
  show W p l e rm_X12_isSameKey s m args below meth c s.heap [] 0 0 (MQ below (va_Qi Kn (BG D cy A Y) A) args s 0 0 A) (F0 m 0 ls [])
  unfold f_X12_isSameKey at hf
  refine lv_aload_n hx hb dX12_isSameKey_0 rfl (lv_at hl 0 rfl) ?_
  obtain ⟨k1, hf⟩ := hf
  obtain ⟨b2, hb2, hf⟩ := hf
  refine gm_getR (C := RX12) (T := TX12) (N := 68) (j := 58) hx hb hts inT_12 hown hK hW k1 (by decide) rfl (by decide) rfl (hts _ kw_1374) rfl dX12_isSameKey_1 hb2 ?_
  refine lv_iload_n hx hb dX12_isSameKey_4 rfl (lv_at hl 1 rfl) ?_
  obtain ⟨k3, hf⟩ := hf
  obtain ⟨h4, hf⟩ := hf
  refine gm_iald hx hb hK hW k3 h4 dX12_isSameKey_5 ?_
  refine lv_aload_n hx hb dX12_isSameKey_6 rfl (lv_at hl 0 rfl) ?_
  obtain ⟨b5, hb5, hf⟩ := hf
  refine gm_getR (C := RX12) (T := TX12) (N := 68) (j := 58) hx hb hts inT_12 hown hK hW k1 (by decide) rfl (by decide) rfl (hts _ kw_1374) rfl dX12_isSameKey_7 hb5 ?_
  refine lv_iload_n hx hb dX12_isSameKey_10 rfl (lv_at hl 2 rfl) ?_
  obtain ⟨k6, hf⟩ := hf
  obtain ⟨h7, hf⟩ := hf
  refine gm_iald hx hb hK hW k6 h7 dX12_isSameKey_11 ?_
  have j20 : ∀ (y8 : Int32) (H : Heap) (locs : List Loc) (ls : Array Slot), lv_has ls 5 [(0, .ref v0), (1, .int v1), (2, .int v2)] → Wd D cy A Y M H → va_S A s.heap H locs → f_X12_isSameKey_20 Y v0 v1 v2 M Kn y8 → W p l e rm_X12_isSameKey s m args below meth c H locs 0 0 (MQ below (va_Qi Kn (BG D cy A Y) A) args s 0 0 A) (F0 m 20 ls [.int y8]) := by
    intro y8 H locs ls hl hW hS hf
    unfold f_X12_isSameKey_20 at hf
    refine lv_istore_n (lv' := [(3, .int y8), (0, .ref v0), (1, .int v1), (2, .int v2)]) hx hb dX12_isSameKey_20 rfl hl (by decide) rfl (fun ls hl => ?_)
    refine lv_iconst (v := 0) hx hb dX12_isSameKey_21 (by decide +kernel) ?_
    refine lv_istore (lv' := [(4, .int 0), (3, .int y8), (0, .ref v0), (1, .int v1), (2, .int v2)]) hx hb dX12_isSameKey_22 hl (by decide) rfl (fun ls hl => ?_)
    obtain ⟨n24, hf⟩ := hf
    have lp24 : ∀ (n24 : Nat) (x9 : Int32) (x10 : Int32) (H : Heap) (locs : List Loc) (ls : Array Slot), lv_has ls 5 [(0, .ref v0), (1, .int v1), (2, .int v2), (3, .int x9), (4, .int x10)] → Wd D cy A Y M H → va_S A s.heap H locs → LOOP2 (L_X12_isSameKey_24 Y v0 v1 v2 M Kn) n24 x9 x10 → W p l e rm_X12_isSameKey s m args below meth c H locs 0 0 (MQ below (va_Qi Kn (BG D cy A Y) A) args s 0 0 A) (F0 m 24 ls []) := by
      intro n24
      induction n24 with
      | zero => intro x9 x10 H locs ls hl hW hS hf; exact hf.elim
      | succ n24 ih24 =>
        intro x9 x10 H locs ls hl hW hS hf
        replace hf : L_X12_isSameKey_24 Y v0 v1 v2 M Kn x9 x10 (LOOP2 (L_X12_isSameKey_24 Y v0 v1 v2 M Kn) n24) := hf
        unfold L_X12_isSameKey_24 at hf
        refine lv_iload hx hb dX12_isSameKey_24 (lv_at hl 4 rfl) ?_
        refine lv_aload_n hx hb dX12_isSameKey_26 rfl (lv_at hl 0 rfl) ?_
        obtain ⟨b11, hb11, hf⟩ := hf
        refine gm_getR (C := RX12) (T := TX12) (N := 68) (j := 58) hx hb hts inT_12 hown hK hW k1 (by decide) rfl (by decide) rfl (hts _ kw_1374) rfl dX12_isSameKey_27 hb11 ?_
        refine lv_iload_n hx hb dX12_isSameKey_30 rfl (lv_at hl 1 rfl) ?_
        obtain ⟨k12, hf⟩ := hf
        obtain ⟨h13, hf⟩ := hf
        refine gm_iald hx hb hK hW k12 h13 dX12_isSameKey_31 ?_
        have j82 : ∀ (H : Heap) (locs : List Loc) (ls : Array Slot), lv_has ls 5 [(3, .int x9)] → Wd D cy A Y M H → va_S A s.heap H locs → f_X12_isSameKey_82 Y M Kn x9  → W p l e rm_X12_isSameKey s m args below meth c H locs 0 0 (MQ below (va_Qi Kn (BG D cy A Y) A) args s 0 0 A) (F0 m 82 ls []) := by
          intro  H locs ls hl hW hS hf
          unfold f_X12_isSameKey_82 at hf
          refine lv_iload_n hx hb dX12_isSameKey_82 rfl (lv_at hl 0 rfl) ?_
          exact gm_zret hx hb hr hlocks hW hS hf.1 hf.2 dX12_isSameKey_83
        refine lv_icmp_ge (tgt := 82) hx hb dX12_isSameKey_32 (by decide) (fun c14 => ?_) (fun c14 => ?_)
        · replace hf := hf.1 c14
          exact j82  _ _ _ (lv_sub hl [3] rfl) hW hS hf
        · replace hf := hf.2 c14
          refine lv_iload_n hx hb dX12_isSameKey_35 rfl (lv_at hl 3 rfl) ?_
          refine lv_if_eq (tgt := 82) hx hb dX12_isSameKey_36 (by decide) (fun c15 => ?_) (fun c15 => ?_)
          · replace hf := hf.1 c15
            exact j82  _ _ _ (lv_sub hl [3] rfl) hW hS hf
          · replace hf := hf.2 c15
            refine lv_aload_n hx hb dX12_isSameKey_39 rfl (lv_at hl 0 rfl) ?_
            obtain ⟨b16, hb16, hf⟩ := hf
            refine gm_getR (C := RX12) (T := TX12) (N := 68) (j := 23) hx hb hts inT_12 hown hK hW k1 (by decide) rfl (by decide) rfl (hts _ kw_1339) rfl dX12_isSameKey_40 hb16 ?_
            refine lv_aload_n hx hb dX12_isSameKey_43 rfl (lv_at hl 0 rfl) ?_
            obtain ⟨b17, hb17, hf⟩ := hf
            refine gm_getR (C := RX12) (T := TX12) (N := 68) (j := 57) hx hb hts inT_12 hown hK hW k1 (by decide) rfl (by decide) rfl (hts _ kw_1373) rfl dX12_isSameKey_44 hb17 ?_
            refine lv_iload_n hx hb dX12_isSameKey_47 rfl (lv_at hl 1 rfl) ?_
            obtain ⟨k18, hf⟩ := hf
            obtain ⟨h19, hf⟩ := hf
            refine gm_iald hx hb hK hW k18 h19 dX12_isSameKey_48 ?_
            refine lv_iload hx hb dX12_isSameKey_49 (lv_at hl 4 rfl) ?_
            refine lv_iadd hx hb dX12_isSameKey_51 ?_
            obtain ⟨k20, hf⟩ := hf
            obtain ⟨h21, hf⟩ := hf
            refine gm_iald hx hb hK hW k20 h21 dX12_isSameKey_52 ?_
            refine lv_aload_n hx hb dX12_isSameKey_53 rfl (lv_at hl 0 rfl) ?_
            obtain ⟨b22, hb22, hf⟩ := hf
            refine gm_getR (C := RX12) (T := TX12) (N := 68) (j := 23) hx hb hts inT_12 hown hK hW k1 (by decide) rfl (by decide) rfl (hts _ kw_1339) rfl dX12_isSameKey_54 hb22 ?_
            refine lv_aload_n hx hb dX12_isSameKey_57 rfl (lv_at hl 0 rfl) ?_
            obtain ⟨b23, hb23, hf⟩ := hf
            refine gm_getR (C := RX12) (T := TX12) (N := 68) (j := 57) hx hb hts inT_12 hown hK hW k1 (by decide) rfl (by decide) rfl (hts _ kw_1373) rfl dX12_isSameKey_58 hb23 ?_
            refine lv_iload_n hx hb dX12_isSameKey_61 rfl (lv_at hl 2 rfl) ?_
            obtain ⟨k24, hf⟩ := hf
            obtain ⟨h25, hf⟩ := hf
            refine gm_iald hx hb hK hW k24 h25 dX12_isSameKey_62 ?_
            refine lv_iload hx hb dX12_isSameKey_63 (lv_at hl 4 rfl) ?_
            refine lv_iadd hx hb dX12_isSameKey_65 ?_
            obtain ⟨k26, hf⟩ := hf
            obtain ⟨h27, hf⟩ := hf
            refine gm_iald hx hb hK hW k26 h27 dX12_isSameKey_66 ?_
            have j75 : ∀ (y28 : Int32) (H : Heap) (locs : List Loc) (ls : Array Slot), lv_has ls 5 [(0, .ref v0), (1, .int v1), (2, .int v2), (4, .int x10)] → Wd D cy A Y M H → va_S A s.heap H locs → f_X12_isSameKey_75 Y x10 (LOOP2 (L_X12_isSameKey_24 Y v0 v1 v2 M Kn) n24) y28 → W p l e rm_X12_isSameKey s m args below meth c H locs 0 0 (MQ below (va_Qi Kn (BG D cy A Y) A) args s 0 0 A) (F0 m 75 ls [.int y28]) := by
              intro y28 H locs ls hl hW hS hf
              unfold f_X12_isSameKey_75 at hf
              refine lv_istore_n (lv' := [(3, .int y28), (0, .ref v0), (1, .int v1), (2, .int v2), (4, .int x10)]) hx hb dX12_isSameKey_75 rfl hl (by decide) rfl (fun ls hl => ?_)
              obtain ⟨x29, ex29⟩ : ∃ y : Int32, y = x10 + 1 := ⟨_, rfl⟩
              replace hf := hf x29 ex29
              refine lv_iinc (v := x29) (lv' := [(4, .int x29), (3, .int y28), (0, .ref v0), (1, .int v1), (2, .int v2)]) hx hb dX12_isSameKey_76 hl (k := 4) rfl (by rw [ex29]; rfl) (by decide) rfl (fun ls hl => ?_)
              refine lv_goto (tgt := 24) hx hb dX12_isSameKey_79 (by decide) ?_
              exact ih24 _ _ _ _ _ (lv_sub hl [2, 3, 4, 1, 0] rfl) hW hS hf
            refine lv_icmp_ne (tgt := 74) hx hb dX12_isSameKey_67 (by decide) (fun c30 => ?_) (fun c30 => ?_)
            · replace hf := hf.1 c30
              refine lv_iconst (v := 0) hx hb dX12_isSameKey_74 (by decide +kernel) ?_
              exact j75 _ _ _ _ (lv_sub hl [0, 1, 2, 4] rfl) hW hS hf
            · replace hf := hf.2 c30
              refine lv_iconst (v := 1) hx hb dX12_isSameKey_70 (by decide +kernel) ?_
              refine lv_goto (tgt := 75) hx hb dX12_isSameKey_71 (by decide) ?_
              exact j75 _ _ _ _ (lv_sub hl [0, 1, 2, 4] rfl) hW hS hf
    exact lp24 n24 _ _ _ _ _ (lv_sub hl [2, 3, 4, 1, 0] rfl) hW hS hf
  refine lv_icmp_ne (tgt := 19) hx hb dX12_isSameKey_12 (by decide) (fun c31 => ?_) (fun c31 => ?_)
  · replace hf := hf.1 c31
    refine lv_iconst (v := 0) hx hb dX12_isSameKey_19 (by decide +kernel) ?_
    exact j20 _ _ _ _ (lv_sub hl [0, 1, 2] rfl) hW hS hf
  · replace hf := hf.2 c31
    refine lv_iconst (v := 1) hx hb dX12_isSameKey_15 (by decide +kernel) ?_
    refine lv_goto (tgt := 20) hx hb dX12_isSameKey_16 (by decide) ?_
    exact j20 _ _ _ _ (lv_sub hl [0, 1, 2] rfl) hW hS hf

abbrev rm_X12_judge : Room := { frames := 4, cells := 0, slots := 0, locals := 123 }
def f_X12_judge_217 (Y : Ly) (x6 : Int32) (again29 : Int32 → Mm → Prop) (b13 : Nat) (y17 : Int32) (M18 : Mm) : Prop :=
  yK Y b13 = 103 ∧ (vp_in x6 (yN Y b13) ∧ (bz y17 ∧ (∀ M22 : Mm, M22 = sI M18 b13 (m1 (mI M18 b13) x6.toNatClampNeg y17) → (∀ x23 : Int32, x23 = x6 + (-1) → (again29 x23 M22)))))
def f_X12_judge_216 (Y : Ly) (x6 : Int32) (again29 : Int32 → Mm → Prop) (b13 : Nat) (M24 : Mm) : Prop :=
  f_X12_judge_217 Y x6 again29 b13 0 M24
def f_X12_judge_184 (Y : Ly) (v0 : Nat) (v1 : Int32) (x6 : Int32) (again29 : Int32 → Mm → Prop) (M12 : Mm) : Prop :=
  ∃ b13 : Nat, mR M12 v0 59 = some b13 ∧ (∃ b14 : Nat, mR M12 v0 59 = some b14 ∧ (yK Y b14 = 103 ∧ (vp_in x6 (yN Y b14) ∧ (((mI M12 b14 x6.toNatClampNeg) = 0 → (f_X12_judge_216 Y x6 again29 b13 M12)) ∧ (¬ ((mI M12 b14 x6.toNatClampNeg) = 0) → (∃ b26 : Nat, mR M12 v0 54 = some b26 ∧ (yK Y b26 = 101 ∧ (vp_in x6 (yN Y b26) ∧ (f_X12_isClosed Y v0 (mI M12 b26 x6.toNatClampNeg) v1 M12 (fun r30 M29 => ((r30 = 0 → (f_X12_judge_216 Y x6 again29 b13 M29)) ∧ (¬ (r30 = 0) → (f_X12_judge_217 Y x6 again29 b13 1 M29)))))))))))))
def f_X12_judge_159 (Y : Ly) (v0 : Nat) (v1 : Int32) (x6 : Int32) (again29 : Int32 → Mm → Prop) (x43 : Int32) (x48 : Int32) (M50 : Mm) (b51 : Nat) (y55 : Int32) : Prop :=
  yK Y b51 = 103 ∧ (vp_in x6 (yN Y b51) ∧ (bz y55 ∧ (∀ M59 : Mm, M59 = sI M50 b51 (m1 (mI M50 b51) x6.toNatClampNeg y55) → ((0 ≤ x48 → (f_X12_judge_184 Y v0 v1 x6 again29 M59)) ∧ (¬ (0 ≤ x48) → (∃ b61 : Nat, mR M59 v0 61 = some b61 ∧ (∃ b62 : Nat, mR M59 v0 60 = some b62 ∧ (yK Y b62 = 101 ∧ (vp_in x43 (yN Y b62) ∧ (yK Y b61 = 101 ∧ (vp_in x6 (yN Y b61) ∧ (∀ M67 : Mm, M67 = sI M59 b61 (m1 (mI M59 b61) x6.toNatClampNeg (mI M59 b62 x43.toNatClampNeg)) → (∃ b68 : Nat, mR M67 v0 60 = some b68 ∧ (yK Y b68 = 101 ∧ (vp_in x43 (yN Y b68) ∧ (∀ M71 : Mm, M71 = sI M67 b68 (m1 (mI M67 b68) x43.toNatClampNeg x6) → (f_X12_judge_184 Y v0 v1 x6 again29 M71)))))))))))))))))
def f_X12_judge_154 (Y : Ly) (v0 : Nat) (v1 : Int32) (x6 : Int32) (again29 : Int32 → Mm → Prop) (x43 : Int32) (x48 : Int32) (M50 : Mm) (b51 : Nat) : Prop :=
  f_X12_judge_159 Y v0 v1 x6 again29 x43 x48 M50 b51 1
def f_X12_judge_135 (Y : Ly) (v0 : Nat) (v1 : Int32) (x6 : Int32) (again29 : Int32 → Mm → Prop) (x43 : Int32) (x48 : Int32) (M50 : Mm) : Prop :=
  ∃ b51 : Nat, mR M50 v0 59 = some b51 ∧ (∃ b52 : Nat, mR M50 v0 59 = some b52 ∧ (yK Y b52 = 103 ∧ (vp_in x6 (yN Y b52) ∧ ((¬ (mI M50 b52 x6.toNatClampNeg) = 0 → (f_X12_judge_154 Y v0 v1 x6 again29 x43 x48 M50 b51)) ∧ ((mI M50 b52 x6.toNatClampNeg) = 0 → ((x48 < 0 → (f_X12_judge_159 Y v0 v1 x6 again29 x43 x48 M50 b51 0)) ∧ (¬ (x48 < 0) → (f_X12_judge_154 Y v0 v1 x6 again29 x43 x48 M50 b51))))))))
def L_X12_judge_108 (Y : Ly) (v0 : Nat) (v1 : Int32) (x6 : Int32) (again29 : Int32 → Mm → Prop) (x43 : Int32) (x48 : Int32) (M49 : Mm) (again108 : Int32 → Mm → Prop) : Prop :=
  (x48 < 0 → (f_X12_judge_135 Y v0 v1 x6 again29 x43 x48 M49)) ∧ (¬ (x48 < 0) → (f_X12_isSameKey Y v0 x6 x48 M49 (fun r76 M75 => ((¬ r76 = 0 → (f_X12_judge_135 Y v0 v1 x6 again29 x43 x48 M75)) ∧ (r76 = 0 → (∃ b78 : Nat, mR M75 v0 61 = some b78 ∧ (yK Y b78 = 101 ∧ (vp_in x48 (yN Y b78) ∧ (∀ x81 : Int32, x81 = mI M75 b78 x48.toNatClampNeg → (again108 x81 M75))))))))))
def L_X12_judge_52 (Y : Ly) (v0 : Nat) (v1 : Int32) (x6 : Int32) (M7 : Mm) (again29 : Int32 → Mm → Prop) (x37 : Int32) (x38 : Int32) (again52 : Int32 → Int32 → Prop) : Prop :=
  ∃ b39 : Nat, mR M7 v0 58 = some b39 ∧ (yK Y b39 = 101 ∧ (vp_in x6 (yN Y b39) ∧ (((mI M7 b39 x6.toNatClampNeg) ≤ x38 → (∀ x43 : Int32, x43 = (x37 ^^^ ((x37.toUInt32 >>> ((12 : Int32).toUInt32 &&& Int32.toUInt32 31)).toInt32)) &&& 4095 → (∃ b44 : Nat, mR M7 v0 60 = some b44 ∧ (yK Y b44 = 101 ∧ (vp_in x43 (yN Y b44) ∧ (∀ x47 : Int32, x47 = mI M7 b44 x43.toNatClampNeg → (∃ n, LOOP2 (L_X12_judge_108 Y v0 v1 x6 again29 x43) n x47 M7))))))) ∧ (¬ ((mI M7 b39 x6.toNatClampNeg) ≤ x38) → (∃ b82 : Nat, mR M7 v0 23 = some b82 ∧ (∃ b83 : Nat, mR M7 v0 57 = some b83 ∧ (yK Y b83 = 101 ∧ (vp_in x6 (yN Y b83) ∧ (yK Y b82 = 101 ∧ (vp_in ((mI M7 b83 x6.toNatClampNeg) + x38) (yN Y b82) ∧ (∀ x88 : Int32, x88 = (31 * x37) + (mI M7 b82 ((mI M7 b83 x6.toNatClampNeg) + x38).toNatClampNeg) → (∀ x89 : Int32, x89 = x38 + 1 → (again52 x88 x89)))))))))))))
def L_X12_judge_29 (Y : Ly) (v0 : Nat) (v1 : Int32) (Kn : Mm → Prop) (x6 : Int32) (M7 : Mm) (again29 : Int32 → Mm → Prop) : Prop :=
  (x6 < 0 → (Kn M7)) ∧ (¬ (x6 < 0) → (∃ b9 : Nat, mR M7 v0 58 = some b9 ∧ (yK Y b9 = 101 ∧ (vp_in x6 (yN Y b9) ∧ (((mI M7 b9 x6.toNatClampNeg) < 0 → (f_X12_judge_184 Y v0 v1 x6 again29 M7)) ∧ (¬ ((mI M7 b9 x6.toNatClampNeg) < 0) → (∃ b33 : Nat, mR M7 v0 58 = some b33 ∧ (yK Y b33 = 101 ∧ (vp_in x6 (yN Y b33) ∧ (∀ x36 : Int32, x36 = mI M7 b33 x6.toNatClampNeg → (∃ n, LOOP2 (L_X12_judge_52 Y v0 v1 x6 M7 again29) n x36 0)))))))))))
def L_X12_judge_2 (Y : Ly) (v0 : Nat) (v1 : Int32) (Kn : Mm → Prop) (x1 : Int32) (M2 : Mm) (again2 : Int32 → Mm → Prop) : Prop :=
  (4096 ≤ x1 → (yK Y v0 = 12 ∧ (∀ x5 : Int32, x5 = (mI M2 v0 53) - 1 → (∃ n, LOOP2 (L_X12_judge_29 Y v0 v1 Kn) n x5 M2)))) ∧ (¬ (4096 ≤ x1) → (yK Y v0 = 12 ∧ (∃ b91 : Nat, mR M2 v0 60 = some b91 ∧ (yK Y b91 = 101 ∧ (vp_in x1 (yN Y b91) ∧ (∀ M94 : Mm, M94 = sI M2 b91 (m1 (mI M2 b91) x1.toNatClampNeg (-1)) → (∀ x95 : Int32, x95 = x1 + 1 → (again2 x95 M94))))))))
def f_X12_judge (Y : Ly) (v0 : Nat) (v1 : Int32) (M : Mm) (Kn : Mm → Prop) : Prop :=
  ∃ n, LOOP2 (L_X12_judge_2 Y v0 v1 Kn) n 0 M
set_option maxHeartbeats 4000000 in
set_option maxRecDepth 100000 in
theorem m_X12_judge (l : Launch) (D : va_G) (cy : Cy) (tq sz : Nat) (Y : Ly) (v0 : Nat) (v1 : Int32) (M : Mm) (Kn : Mm → Prop) : Met l yX12_judge (Cond.code yX12_judge cX12_judge 5 none :: TT) rm_X12_judge (PcG D cy tq [.ref v0, .int v1] sz Y M (f_X12_judge Y v0 v1 M Kn)) (va_Qv Kn (BG D cy (Am Y sz) Y) (Am Y sz)) 0 0 (Am Y sz) := by
  refine Met.ofW (cc := cX12_judge) (maxL := 5) (ret := none) (by decide) rfl ?_
  intro p e s m args below meth c s₁ B hml hv
  obtain ⟨hargs, hsz, hW, hK, hC, hf⟩ := hv
  subst hsz
  have hx := B.exec
  have hb := B.bytes
  have hr := B.returns
  have hts : ∀ w ∈ TT, w.before args s = true := fun w h => atoms_spec (ws := Cond.code yX12_judge cX12_judge 5 none :: TT) B.pre w (List.mem_cons_of_mem _ h)
  have hown : s.vm.findClass RX12 = some m.cls := findClass_of_methodNamed B.named
  have hlocks := B.notSynchronized
  replace hW := Wd_self (sz := s.heap.size) hW
  generalize hAe : Am Y s.heap.size = A at hW hC ⊢
  have hA : ∀ q : Nat, s.heap.size ≤ q → A q := fun q h => by rw [← hAe]; exact Or.inr h
  clear hAe
  have hS : va_S A s.heap s.heap [] := va_S.rf
  obtain ⟨ls, hE, hl⟩ := gm_entry m [.ref v0, .int v1] (n := 5) hargs (Nat.le_of_ble_eq_true rfl)
  rw [hE]
  have hl : lv_has ls 5 [(0, .ref v0), (1, .int v1)] := hl
  show W p l e rm_X12_judge s m args below meth c s.heap [] 0 0 (MQ below (va_Qv Kn (BG D cy A Y) A) args s 0 0 A) (F0 m 0 ls [])
  unfold f_X12_judge at hf
  refine lv_iconst (v := 0) hx hb dX12_judge_0 (by decide +kernel) ?_
  refine lv_istore_n (lv' := [(2, .int 0), (0, .ref v0), (1, .int v1)]) hx hb dX12_judge_1 rfl hl (by decide) rfl (fun ls hl => ?_)
  obtain ⟨n2, hf⟩ := hf
  have lp2 : ∀ (n2 : Nat) (x1 : Int32) (M2 : Mm) (H : Heap) (locs : List Loc) (ls : Array Slot), lv_has ls 5 [(0, .ref v0), (1, .int v1), (2, .int x1)] → Wd D cy A Y M2 H → va_S A s.heap H locs → LOOP2 (L_X12_judge_2 Y v0 v1 Kn) n2 x1 M2 → W p l e rm_X12_judge s m args below meth c H locs 0 0 (MQ below (va_Qv Kn (BG D cy A Y) A) args s 0 0 A) (F0 m 2 ls []) := by
    intro n2
    induction n2 with
    | zero => intro x1 M2 H locs ls hl hW hS hf; exact hf.elim
    | succ n2 ih2 =>
      intro x1 M2 H locs ls hl hW hS hf
      replace hf : L_X12_judge_2 Y v0 v1 Kn x1 M2 (LOOP2 (L_X12_judge_2 Y v0 v1 Kn) n2) := hf
      unfold L_X12_judge_2 at hf
      refine lv_iload_n hx hb dX12_judge_2 rfl (lv_at hl 2 rfl) ?_
      refine lv_sipush (v := 4096) hx hb dX12_judge_3 (by decide +kernel) ?_
      refine lv_icmp_ge (tgt := 22) hx hb dX12_judge_6 (by decide) (fun c3 => ?_) (fun c3 => ?_)
      · replace hf := hf.1 c3
        refine lv_aload_n hx hb dX12_judge_22 rfl (lv_at hl 0 rfl) ?_
        obtain ⟨k4, hf⟩ := hf
        refine gm_getI (C := RX12) (T := TX12) (N := 68) (j := 53) hx hb hts inT_12 hown hK hW k4 (by decide) rfl (by decide) rfl (hts _ kw_1369) rfl dX12_judge_23 ?_
        refine lv_iconst (v := 1) hx hb dX12_judge_26 (by decide +kernel) ?_
        refine lv_isub hx hb dX12_judge_27 ?_
        refine lv_topi (fun x5 ex5 => ?_)
        replace hf := hf x5 ex5
        refine lv_istore_n (lv' := [(2, .int x5), (0, .ref v0), (1, .int v1)]) hx hb dX12_judge_28 rfl hl (by decide) rfl (fun ls hl => ?_)
        obtain ⟨n29, hf⟩ := hf
        have lp29 : ∀ (n29 : Nat) (x6 : Int32) (M7 : Mm) (H : Heap) (locs : List Loc) (ls : Array Slot), lv_has ls 5 [(0, .ref v0), (1, .int v1), (2, .int x6)] → Wd D cy A Y M7 H → va_S A s.heap H locs → LOOP2 (L_X12_judge_29 Y v0 v1 Kn) n29 x6 M7 → W p l e rm_X12_judge s m args below meth c H locs 0 0 (MQ below (va_Qv Kn (BG D cy A Y) A) args s 0 0 A) (F0 m 29 ls []) := by
          intro n29
          induction n29 with
          | zero => intro x6 M7 H locs ls hl hW hS hf; exact hf.elim
          | succ n29 ih29 =>
            intro x6 M7 H locs ls hl hW hS hf
            replace hf : L_X12_judge_29 Y v0 v1 Kn x6 M7 (LOOP2 (L_X12_judge_29 Y v0 v1 Kn) n29) := hf
            unfold L_X12_judge_29 at hf
            refine lv_iload_n hx hb dX12_judge_29 rfl (lv_at hl 2 rfl) ?_
            refine lv_if_lt (tgt := 224) hx hb dX12_judge_30 (by decide) (fun c8 => ?_) (fun c8 => ?_)
            · replace hf := hf.1 c8
              exact gm_vret hx hb hr hlocks hW hS hf dX12_judge_224
            · replace hf := hf.2 c8
              refine lv_aload_n hx hb dX12_judge_33 rfl (lv_at hl 0 rfl) ?_
              obtain ⟨b9, hb9, hf⟩ := hf
              refine gm_getR (C := RX12) (T := TX12) (N := 68) (j := 58) hx hb hts inT_12 hown hK hW k4 (by decide) rfl (by decide) rfl (hts _ kw_1374) rfl dX12_judge_34 hb9 ?_
              refine lv_iload_n hx hb dX12_judge_37 rfl (lv_at hl 2 rfl) ?_
              obtain ⟨k10, hf⟩ := hf
              obtain ⟨h11, hf⟩ := hf
              refine gm_iald hx hb hK hW k10 h11 dX12_judge_38 ?_
              have j184 : ∀ (M12 : Mm) (H : Heap) (locs : List Loc) (ls : Array Slot), lv_has ls 5 [(0, .ref v0), (1, .int v1), (2, .int x6)] → Wd D cy A Y M12 H → va_S A s.heap H locs → f_X12_judge_184 Y v0 v1 x6 (LOOP2 (L_X12_judge_29 Y v0 v1 Kn) n29) M12 → W p l e rm_X12_judge s m args below meth c H locs 0 0 (MQ below (va_Qv Kn (BG D cy A Y) A) args s 0 0 A) (F0 m 184 ls []) := by
                intro M12 H locs ls hl hW hS hf
                unfold f_X12_judge_184 at hf
                refine lv_aload_n hx hb dX12_judge_184 rfl (lv_at hl 0 rfl) ?_
                obtain ⟨b13, hb13, hf⟩ := hf
                refine gm_getR (C := RX12) (T := TX12) (N := 68) (j := 59) hx hb hts inT_12 hown hK hW k4 (by decide) rfl (by decide) rfl (hts _ kw_1375) rfl dX12_judge_185 hb13 ?_
                refine lv_iload_n hx hb dX12_judge_188 rfl (lv_at hl 2 rfl) ?_
                refine lv_aload_n hx hb dX12_judge_189 rfl (lv_at hl 0 rfl) ?_
                obtain ⟨b14, hb14, hf⟩ := hf
                refine gm_getR (C := RX12) (T := TX12) (N := 68) (j := 59) hx hb hts inT_12 hown hK hW k4 (by decide) rfl (by decide) rfl (hts _ kw_1375) rfl dX12_judge_190 hb14 ?_
                refine lv_iload_n hx hb dX12_judge_193 rfl (lv_at hl 2 rfl) ?_
                obtain ⟨k15, hf⟩ := hf
                obtain ⟨h16, hf⟩ := hf
                refine gm_zald hx hb hK hW k15 h16 dX12_judge_194 ?_
                have j217 : ∀ (y17 : Int32) (M18 : Mm) (H : Heap) (locs : List Loc) (ls : Array Slot), lv_has ls 5 [(0, .ref v0), (1, .int v1), (2, .int x6)] → Wd D cy A Y M18 H → va_S A s.heap H locs → f_X12_judge_217 Y x6 (LOOP2 (L_X12_judge_29 Y v0 v1 Kn) n29) b13 y17 M18 → W p l e rm_X12_judge s m args below meth c H locs 0 0 (MQ below (va_Qv Kn (BG D cy A Y) A) args s 0 0 A) (F0 m 217 ls [.int y17, .int x6, .ref b13]) := by
                  intro y17 M18 H locs ls hl hW hS hf
                  unfold f_X12_judge_217 at hf
                  obtain ⟨k19, hf⟩ := hf
                  obtain ⟨h20, hf⟩ := hf
                  obtain ⟨z21, hf⟩ := hf
                  refine gm_zast hx hb hK hW hS k19 h20 (bz_v z21) dX12_judge_217 (fun H locs M22 eM22 hW hS => ?_)
                  replace hf := hf M22 eM22
                  obtain ⟨x23, ex23⟩ : ∃ y : Int32, y = x6 + (-1) := ⟨_, rfl⟩
                  replace hf := hf x23 ex23
                  refine lv_iinc (v := x23) (lv' := [(2, .int x23), (0, .ref v0), (1, .int v1)]) hx hb dX12_judge_218 hl (k := 2) rfl (by rw [ex23]; rfl) (by decide) rfl (fun ls hl => ?_)
                  refine lv_goto (tgt := 29) hx hb dX12_judge_221 (by decide) ?_
                  exact ih29 _ _ _ _ _ (lv_sub hl [1, 2, 0] rfl) hW hS hf
                have j216 : ∀ (M24 : Mm) (H : Heap) (locs : List Loc) (ls : Array Slot), lv_has ls 5 [(0, .ref v0), (1, .int v1), (2, .int x6)] → Wd D cy A Y M24 H → va_S A s.heap H locs → f_X12_judge_216 Y x6 (LOOP2 (L_X12_judge_29 Y v0 v1 Kn) n29) b13 M24 → W p l e rm_X12_judge s m args below meth c H locs 0 0 (MQ below (va_Qv Kn (BG D cy A Y) A) args s 0 0 A) (F0 m 216 ls [.int x6, .ref b13]) := by
                  intro M24 H locs ls hl hW hS hf
                  unfold f_X12_judge_216 at hf
                  refine lv_iconst (v := 0) hx hb dX12_judge_216 (by decide +kernel) ?_
                  exact j217 _ _ _ _ _ (lv_sub hl [0, 1, 2] rfl) hW hS hf
                refine lv_if_eq (tgt := 216) hx hb dX12_judge_195 (by decide) (fun c25 => ?_) (fun c25 => ?_)
                · replace hf := hf.1 c25
                  exact j216 _ _ _ _ (lv_sub hl [0, 1, 2] rfl) hW hS hf
                · replace hf := hf.2 c25
                  refine lv_aload_n hx hb dX12_judge_198 rfl (lv_at hl 0 rfl) ?_
                  refine lv_aload_n hx hb dX12_judge_199 rfl (lv_at hl 0 rfl) ?_
                  obtain ⟨b26, hb26, hf⟩ := hf
                  refine gm_getR (C := RX12) (T := TX12) (N := 68) (j := 54) hx hb hts inT_12 hown hK hW k4 (by decide) rfl (by decide) rfl (hts _ kw_1370) rfl dX12_judge_200 hb26 ?_
                  refine lv_iload_n hx hb dX12_judge_203 rfl (lv_at hl 2 rfl) ?_
                  obtain ⟨k27, hf⟩ := hf
                  obtain ⟨h28, hf⟩ := hf
                  refine gm_iald hx hb hK hW k27 h28 dX12_judge_204 ?_
                  refine lv_iload_n hx hb dX12_judge_205 rfl (lv_at hl 1 rfl) ?_
                  refine gm_ci (va_runV (As := [.int (mI M12 b26 x6.toNatClampNeg), .int v1]) (rest := [.int x6, .ref b13]) ⟨hx, hb, hml, hown, hts⟩ (m_X12_isClosed l D cy tq _ Y _ _ _ _ _) (cwV 2 hts (good_V kw_1674 kw_1675 kw_1860 kw_12 kw_1676) rfl rfl rfl (by decide +kernel) ⟨Nat.le_of_ble_eq_true rfl, Nat.le_of_ble_eq_true rfl⟩) (gm_preV hK hW hC hS hA k4 (by decide) (q := (RX12, TX12, 68)) rfl rfl hf) rfl rfl hl.1 rfl (lv_room (Nat.le_of_ble_eq_true rfl)) dX12_judge_206 ⟨Nat.le_of_ble_eq_true rfl, Nat.le_of_ble_eq_true rfl⟩) hW hS hA (fun r30 M29 H locs hW hS hf => ?_)
                  refine lv_if_eq (tgt := 216) hx hb dX12_judge_209 (by decide) (fun c31 => ?_) (fun c31 => ?_)
                  · replace hf := hf.1 c31
                    exact j216 _ _ _ _ (lv_sub hl [0, 1, 2] rfl) hW hS hf
                  · replace hf := hf.2 c31
                    refine lv_iconst (v := 1) hx hb dX12_judge_212 (by decide +kernel) ?_
                    refine lv_goto (tgt := 217) hx hb dX12_judge_213 (by decide) ?_
                    exact j217 _ _ _ _ _ (lv_sub hl [0, 1, 2] rfl) hW hS hf
              refine lv_if_lt (tgt := 184) hx hb dX12_judge_39 (by decide) (fun c32 => ?_) (fun c32 => ?_)
              · replace hf := hf.1 c32
                exact j184 _ _ _ _ (lv_sub hl [0, 1, 2] rfl) hW hS hf
              · replace hf := hf.2 c32
                refine lv_aload_n hx hb dX12_judge_42 rfl (lv_at hl 0 rfl) ?_
                obtain ⟨b33, hb33, hf⟩ := hf
                refine gm_getR (C := RX12) (T := TX12) (N := 68) (j := 58) hx hb hts inT_12 hown hK hW k4 (by decide) rfl (by decide) rfl (hts _ kw_1374) rfl dX12_judge_43 hb33 ?_
                refine lv_iload_n hx hb dX12_judge_46 rfl (lv_at hl 2 rfl) ?_
                obtain ⟨k34, hf⟩ := hf
                obtain ⟨h35, hf⟩ := hf
                refine gm_iald hx hb hK hW k34 h35 dX12_judge_47 ?_
                refine lv_topi (fun x36 ex36 => ?_)
                replace hf := hf x36 ex36
                refine lv_istore_n (lv' := [(3, .int x36), (0, .ref v0), (1, .int v1), (2, .int x6)]) hx hb dX12_judge_48 rfl hl (by decide) rfl (fun ls hl => ?_)
                refine lv_iconst (v := 0) hx hb dX12_judge_49 (by decide +kernel) ?_
                refine lv_istore (lv' := [(4, .int 0), (3, .int x36), (0, .ref v0), (1, .int v1), (2, .int x6)]) hx hb dX12_judge_50 hl (by decide) rfl (fun ls hl => ?_)
                obtain ⟨n52, hf⟩ := hf
                have lp52 : ∀ (n52 : Nat) (x37 : Int32) (x38 : Int32) (H : Heap) (locs : List Loc) (ls : Array Slot), lv_has ls 5 [(0, .ref v0), (1, .int v1), (2, .int x6), (3, .int x37), (4, .int x38)] → Wd D cy A Y M7 H → va_S A s.heap H locs → LOOP2 (L_X12_judge_52 Y v0 v1 x6 M7 (LOOP2 (L_X12_judge_29 Y v0 v1 Kn) n29)) n52 x37 x38 → W p l e rm_X12_judge s m args below meth c H locs 0 0 (MQ below (va_Qv Kn (BG D cy A Y) A) args s 0 0 A) (F0 m 52 ls []) := by
                  intro n52
                  induction n52 with
                  | zero => intro x37 x38 H locs ls hl hW hS hf; exact hf.elim
                  | succ n52 ih52 =>
                    intro x37 x38 H locs ls hl hW hS hf
                    replace hf : L_X12_judge_52 Y v0 v1 x6 M7 (LOOP2 (L_X12_judge_29 Y v0 v1 Kn) n29) x37 x38 (LOOP2 (L_X12_judge_52 Y v0 v1 x6 M7 (LOOP2 (L_X12_judge_29 Y v0 v1 Kn) n29)) n52) := hf
                    unfold L_X12_judge_52 at hf
                    refine lv_iload hx hb dX12_judge_52 (lv_at hl 4 rfl) ?_
                    refine lv_aload_n hx hb dX12_judge_54 rfl (lv_at hl 0 rfl) ?_
                    obtain ⟨b39, hb39, hf⟩ := hf
                    refine gm_getR (C := RX12) (T := TX12) (N := 68) (j := 58) hx hb hts inT_12 hown hK hW k4 (by decide) rfl (by decide) rfl (hts _ kw_1374) rfl dX12_judge_55 hb39 ?_
                    refine lv_iload_n hx hb dX12_judge_58 rfl (lv_at hl 2 rfl) ?_
                    obtain ⟨k40, hf⟩ := hf
                    obtain ⟨h41, hf⟩ := hf
                    refine gm_iald hx hb hK hW k40 h41 dX12_judge_59 ?_
                    refine lv_icmp_ge (tgt := 89) hx hb dX12_judge_60 (by decide) (fun c42 => ?_) (fun c42 => ?_)
                    · replace hf := hf.1 c42
                      refine lv_iload_n hx hb dX12_judge_89 rfl (lv_at hl 3 rfl) ?_
                      refine lv_iload_n hx hb dX12_judge_90 rfl (lv_at hl 3 rfl) ?_
                      refine lv_bipush (v := 12) hx hb dX12_judge_91 (by decide +kernel) ?_
                      refine lv_iushr hx hb dX12_judge_93 rfl ?_
                      refine lv_ixor hx hb dX12_judge_94 ?_
                      refine lv_sipush (v := 4095) hx hb dX12_judge_95 (by decide +kernel) ?_
                      refine lv_iand hx hb dX12_judge_98 ?_
                      refine lv_topi (fun x43 ex43 => ?_)
                      replace hf := hf x43 ex43
                      refine lv_istore_n (lv' := [(3, .int x43), (0, .ref v0), (1, .int v1), (2, .int x6), (4, .int x38)]) hx hb dX12_judge_99 rfl hl (by decide) rfl (fun ls hl => ?_)
                      refine lv_aload_n hx hb dX12_judge_100 rfl (lv_at hl 1 rfl) ?_
                      obtain ⟨b44, hb44, hf⟩ := hf
                      refine gm_getR (C := RX12) (T := TX12) (N := 68) (j := 60) hx hb hts inT_12 hown hK hW k4 (by decide) rfl (by decide) rfl (hts _ kw_1376) rfl dX12_judge_101 hb44 ?_
                      refine lv_iload_n hx hb dX12_judge_104 rfl (lv_at hl 0 rfl) ?_
                      obtain ⟨k45, hf⟩ := hf
                      obtain ⟨h46, hf⟩ := hf
                      refine gm_iald hx hb hK hW k45 h46 dX12_judge_105 ?_
                      refine lv_topi (fun x47 ex47 => ?_)
                      replace hf := hf x47 ex47
                      refine lv_istore (lv' := [(4, .int x47), (3, .int x43), (0, .ref v0), (1, .int v1), (2, .int x6)]) hx hb dX12_judge_106 hl (by decide) rfl (fun ls hl => ?_)
                      obtain ⟨n108, hf⟩ := hf
                      have lp108 : ∀ (n108 : Nat) (x48 : Int32) (M49 : Mm) (H : Heap) (locs : List Loc) (ls : Array Slot), lv_has ls 5 [(0, .ref v0), (1, .int v1), (2, .int x6), (3, .int x43), (4, .int x48)] → Wd D cy A Y M49 H → va_S A s.heap H locs → LOOP2 (L_X12_judge_108 Y v0 v1 x6 (LOOP2 (L_X12_judge_29 Y v0 v1 Kn) n29) x43) n108 x48 M49 → W p l e rm_X12_judge s m args below meth c H locs 0 0 (MQ below (va_Qv Kn (BG D cy A Y) A) args s 0 0 A) (F0 m 108 ls []) := by
                        intro n108
                        induction n108 with
                        | zero => intro x48 M49 H locs ls hl hW hS hf; exact hf.elim
                        | succ n108 ih108 =>
                          intro x48 M49 H locs ls hl hW hS hf
                          replace hf : L_X12_judge_108 Y v0 v1 x6 (LOOP2 (L_X12_judge_29 Y v0 v1 Kn) n29) x43 x48 M49 (LOOP2 (L_X12_judge_108 Y v0 v1 x6 (LOOP2 (L_X12_judge_29 Y v0 v1 Kn) n29) x43) n108) := hf
                          unfold L_X12_judge_108 at hf
                          refine lv_iload hx hb dX12_judge_108 (lv_at hl 4 rfl) ?_
                          have j135 : ∀ (M50 : Mm) (H : Heap) (locs : List Loc) (ls : Array Slot), lv_has ls 5 [(0, .ref v0), (1, .int v1), (2, .int x6), (3, .int x43), (4, .int x48)] → Wd D cy A Y M50 H → va_S A s.heap H locs → f_X12_judge_135 Y v0 v1 x6 (LOOP2 (L_X12_judge_29 Y v0 v1 Kn) n29) x43 x48 M50 → W p l e rm_X12_judge s m args below meth c H locs 0 0 (MQ below (va_Qv Kn (BG D cy A Y) A) args s 0 0 A) (F0 m 135 ls []) := by
                            intro M50 H locs ls hl hW hS hf
                            unfold f_X12_judge_135 at hf
                            refine lv_aload_n hx hb dX12_judge_135 rfl (lv_at hl 0 rfl) ?_
                            obtain ⟨b51, hb51, hf⟩ := hf
                            refine gm_getR (C := RX12) (T := TX12) (N := 68) (j := 59) hx hb hts inT_12 hown hK hW k4 (by decide) rfl (by decide) rfl (hts _ kw_1375) rfl dX12_judge_136 hb51 ?_
                            refine lv_iload_n hx hb dX12_judge_139 rfl (lv_at hl 2 rfl) ?_
                            refine lv_aload_n hx hb dX12_judge_140 rfl (lv_at hl 0 rfl) ?_
                            obtain ⟨b52, hb52, hf⟩ := hf
                            refine gm_getR (C := RX12) (T := TX12) (N := 68) (j := 59) hx hb hts inT_12 hown hK hW k4 (by decide) rfl (by decide) rfl (hts _ kw_1375) rfl dX12_judge_141 hb52 ?_
                            refine lv_iload_n hx hb dX12_judge_144 rfl (lv_at hl 2 rfl) ?_
                            obtain ⟨k53, hf⟩ := hf
                            obtain ⟨h54, hf⟩ := hf
                            refine gm_zald hx hb hK hW k53 h54 dX12_judge_145 ?_
                            have j159 : ∀ (y55 : Int32) (H : Heap) (locs : List Loc) (ls : Array Slot), lv_has ls 5 [(0, .ref v0), (1, .int v1), (2, .int x6), (3, .int x43), (4, .int x48)] → Wd D cy A Y M50 H → va_S A s.heap H locs → f_X12_judge_159 Y v0 v1 x6 (LOOP2 (L_X12_judge_29 Y v0 v1 Kn) n29) x43 x48 M50 b51 y55 → W p l e rm_X12_judge s m args below meth c H locs 0 0 (MQ below (va_Qv Kn (BG D cy A Y) A) args s 0 0 A) (F0 m 159 ls [.int y55, .int x6, .ref b51]) := by
                              intro y55 H locs ls hl hW hS hf
                              unfold f_X12_judge_159 at hf
                              obtain ⟨k56, hf⟩ := hf
                              obtain ⟨h57, hf⟩ := hf
                              obtain ⟨z58, hf⟩ := hf
                              refine gm_zast hx hb hK hW hS k56 h57 (bz_v z58) dX12_judge_159 (fun H locs M59 eM59 hW hS => ?_)
                              replace hf := hf M59 eM59
                              refine lv_iload hx hb dX12_judge_160 (lv_at hl 4 rfl) ?_
                              refine lv_if_ge (tgt := 184) hx hb dX12_judge_162 (by decide) (fun c60 => ?_) (fun c60 => ?_)
                              · replace hf := hf.1 c60
                                exact j184 _ _ _ _ (lv_sub hl [0, 1, 2] rfl) hW hS hf
                              · replace hf := hf.2 c60
                                refine lv_aload_n hx hb dX12_judge_165 rfl (lv_at hl 0 rfl) ?_
                                obtain ⟨b61, hb61, hf⟩ := hf
                                refine gm_getR (C := RX12) (T := TX12) (N := 68) (j := 61) hx hb hts inT_12 hown hK hW k4 (by decide) rfl (by decide) rfl (hts _ kw_1377) rfl dX12_judge_166 hb61 ?_
                                refine lv_iload_n hx hb dX12_judge_169 rfl (lv_at hl 2 rfl) ?_
                                refine lv_aload_n hx hb dX12_judge_170 rfl (lv_at hl 0 rfl) ?_
                                obtain ⟨b62, hb62, hf⟩ := hf
                                refine gm_getR (C := RX12) (T := TX12) (N := 68) (j := 60) hx hb hts inT_12 hown hK hW k4 (by decide) rfl (by decide) rfl (hts _ kw_1376) rfl dX12_judge_171 hb62 ?_
                                refine lv_iload_n hx hb dX12_judge_174 rfl (lv_at hl 3 rfl) ?_
                                obtain ⟨k63, hf⟩ := hf
                                obtain ⟨h64, hf⟩ := hf
                                refine gm_iald hx hb hK hW k63 h64 dX12_judge_175 ?_
                                obtain ⟨k65, hf⟩ := hf
                                obtain ⟨h66, hf⟩ := hf
                                refine gm_iast hx hb hK hW hS k65 h66 dX12_judge_176 (fun H locs M67 eM67 hW hS => ?_)
                                replace hf := hf M67 eM67
                                refine lv_aload_n hx hb dX12_judge_177 rfl (lv_at hl 0 rfl) ?_
                                obtain ⟨b68, hb68, hf⟩ := hf
                                refine gm_getR (C := RX12) (T := TX12) (N := 68) (j := 60) hx hb hts inT_12 hown hK hW k4 (by decide) rfl (by decide) rfl (hts _ kw_1376) rfl dX12_judge_178 hb68 ?_
                                refine lv_iload_n hx hb dX12_judge_181 rfl (lv_at hl 3 rfl) ?_
                                refine lv_iload_n hx hb dX12_judge_182 rfl (lv_at hl 2 rfl) ?_
                                obtain ⟨k69, hf⟩ := hf
                                obtain ⟨h70, hf⟩ := hf
                                refine gm_iast hx hb hK hW hS k69 h70 dX12_judge_183 (fun H locs M71 eM71 hW hS => ?_)
                                replace hf := hf M71 eM71
                                exact j184 _ _ _ _ (lv_sub hl [0, 1, 2] rfl) hW hS hf
                            have j154 : ∀ (H : Heap) (locs : List Loc) (ls : Array Slot), lv_has ls 5 [(0, .ref v0), (1, .int v1), (2, .int x6), (3, .int x43), (4, .int x48)] → Wd D cy A Y M50 H → va_S A s.heap H locs → f_X12_judge_154 Y v0 v1 x6 (LOOP2 (L_X12_judge_29 Y v0 v1 Kn) n29) x43 x48 M50 b51  → W p l e rm_X12_judge s m args below meth c H locs 0 0 (MQ below (va_Qv Kn (BG D cy A Y) A) args s 0 0 A) (F0 m 154 ls [.int x6, .ref b51]) := by
                              intro  H locs ls hl hW hS hf
                              unfold f_X12_judge_154 at hf
                              refine lv_iconst (v := 1) hx hb dX12_judge_154 (by decide +kernel) ?_
                              refine lv_goto (tgt := 159) hx hb dX12_judge_155 (by decide) ?_
                              exact j159 _ _ _ _ (lv_sub hl [0, 1, 2, 3, 4] rfl) hW hS hf
                            refine lv_if_ne (tgt := 154) hx hb dX12_judge_146 (by decide) (fun c72 => ?_) (fun c72 => ?_)
                            · replace hf := hf.1 c72
                              exact j154  _ _ _ (lv_sub hl [0, 1, 2, 3, 4] rfl) hW hS hf
                            · replace hf := hf.2 c72
                              refine lv_iload hx hb dX12_judge_149 (lv_at hl 4 rfl) ?_
                              refine lv_if_lt (tgt := 158) hx hb dX12_judge_151 (by decide) (fun c73 => ?_) (fun c73 => ?_)
                              · replace hf := hf.1 c73
                                refine lv_iconst (v := 0) hx hb dX12_judge_158 (by decide +kernel) ?_
                                exact j159 _ _ _ _ (lv_sub hl [0, 1, 2, 3, 4] rfl) hW hS hf
                              · replace hf := hf.2 c73
                                exact j154  _ _ _ (lv_sub hl [0, 1, 2, 3, 4] rfl) hW hS hf
                          refine lv_if_lt (tgt := 135) hx hb dX12_judge_110 (by decide) (fun c74 => ?_) (fun c74 => ?_)
                          · replace hf := hf.1 c74
                            exact j135 _ _ _ _ (lv_sub hl [0, 1, 2, 3, 4] rfl) hW hS hf
                          · replace hf := hf.2 c74
                            refine lv_aload_n hx hb dX12_judge_113 rfl (lv_at hl 0 rfl) ?_
                            refine lv_iload_n hx hb dX12_judge_114 rfl (lv_at hl 2 rfl) ?_
                            refine lv_iload hx hb dX12_judge_115 (lv_at hl 4 rfl) ?_
                            refine gm_ci (va_runV (As := [.int x6, .int x48]) (rest := []) ⟨hx, hb, hml, hown, hts⟩ (m_X12_isSameKey l D cy tq _ Y _ _ _ _ _) (cwV 2 hts (good_V kw_1671 kw_1672 kw_1859 kw_12 kw_1673) rfl rfl rfl (by decide +kernel) ⟨Nat.le_of_ble_eq_true rfl, Nat.le_of_ble_eq_true rfl⟩) (gm_preV hK hW hC hS hA k4 (by decide) (q := (RX12, TX12, 68)) rfl rfl hf) rfl rfl hl.1 rfl (lv_room (Nat.le_of_ble_eq_true rfl)) dX12_judge_117 ⟨Nat.le_of_ble_eq_true rfl, Nat.le_of_ble_eq_true rfl⟩) hW hS hA (fun r76 M75 H locs hW hS hf => ?_)
                            refine lv_if_ne (tgt := 135) hx hb dX12_judge_120 (by decide) (fun c77 => ?_) (fun c77 => ?_)
                            · replace hf := hf.1 c77
                              exact j135 _ _ _ _ (lv_sub hl [0, 1, 2, 3, 4] rfl) hW hS hf
                            · replace hf := hf.2 c77
                              refine lv_aload_n hx hb dX12_judge_123 rfl (lv_at hl 0 rfl) ?_
                              obtain ⟨b78, hb78, hf⟩ := hf
                              refine gm_getR (C := RX12) (T := TX12) (N := 68) (j := 61) hx hb hts inT_12 hown hK hW k4 (by decide) rfl (by decide) rfl (hts _ kw_1377) rfl dX12_judge_124 hb78 ?_
                              refine lv_iload hx hb dX12_judge_127 (lv_at hl 4 rfl) ?_
                              obtain ⟨k79, hf⟩ := hf
                              obtain ⟨h80, hf⟩ := hf
                              refine gm_iald hx hb hK hW k79 h80 dX12_judge_129 ?_
                              refine lv_topi (fun x81 ex81 => ?_)
                              replace hf := hf x81 ex81
                              refine lv_istore (lv' := [(4, .int x81), (0, .ref v0), (1, .int v1), (2, .int x6), (3, .int x43)]) hx hb dX12_judge_130 hl (by decide) rfl (fun ls hl => ?_)
                              refine lv_goto (tgt := 108) hx hb dX12_judge_132 (by decide) ?_
                              exact ih108 _ _ _ _ _ (lv_sub hl [1, 2, 3, 4, 0] rfl) hW hS hf
                      exact lp108 n108 _ _ _ _ _ (lv_sub hl [2, 3, 4, 1, 0] rfl) hW hS hf
                    · replace hf := hf.2 c42
                      refine lv_bipush (v := 31) hx hb dX12_judge_63 (by decide +kernel) ?_
                      refine lv_iload_n hx hb dX12_judge_65 rfl (lv_at hl 3 rfl) ?_
                      refine lv_imul hx hb dX12_judge_66 ?_
                      refine lv_aload_n hx hb dX12_judge_67 rfl (lv_at hl 0 rfl) ?_
                      obtain ⟨b82, hb82, hf⟩ := hf
                      refine gm_getR (C := RX12) (T := TX12) (N := 68) (j := 23) hx hb hts inT_12 hown hK hW k4 (by decide) rfl (by decide) rfl (hts _ kw_1339) rfl dX12_judge_68 hb82 ?_
                      refine lv_aload_n hx hb dX12_judge_71 rfl (lv_at hl 0 rfl) ?_
                      obtain ⟨b83, hb83, hf⟩ := hf
                      refine gm_getR (C := RX12) (T := TX12) (N := 68) (j := 57) hx hb hts inT_12 hown hK hW k4 (by decide) rfl (by decide) rfl (hts _ kw_1373) rfl dX12_judge_72 hb83 ?_
                      refine lv_iload_n hx hb dX12_judge_75 rfl (lv_at hl 2 rfl) ?_
                      obtain ⟨k84, hf⟩ := hf
                      obtain ⟨h85, hf⟩ := hf
                      refine gm_iald hx hb hK hW k84 h85 dX12_judge_76 ?_
                      refine lv_iload hx hb dX12_judge_77 (lv_at hl 4 rfl) ?_
                      refine lv_iadd hx hb dX12_judge_79 ?_
                      obtain ⟨k86, hf⟩ := hf
                      obtain ⟨h87, hf⟩ := hf
                      refine gm_iald hx hb hK hW k86 h87 dX12_judge_80 ?_
                      refine lv_iadd hx hb dX12_judge_81 ?_
                      refine lv_topi (fun x88 ex88 => ?_)
                      replace hf := hf x88 ex88
                      refine lv_istore_n (lv' := [(3, .int x88), (0, .ref v0), (1, .int v1), (2, .int x6), (4, .int x38)]) hx hb dX12_judge_82 rfl hl (by decide) rfl (fun ls hl => ?_)
                      obtain ⟨x89, ex89⟩ : ∃ y : Int32, y = x38 + 1 := ⟨_, rfl⟩
                      replace hf := hf x89 ex89
                      refine lv_iinc (v := x89) (lv' := [(4, .int x89), (3, .int x88), (0, .ref v0), (1, .int v1), (2, .int x6)]) hx hb dX12_judge_83 hl (k := 4) rfl (by rw [ex89]; rfl) (by decide) rfl (fun ls hl => ?_)
                      refine lv_goto (tgt := 52) hx hb dX12_judge_86 (by decide) ?_
                      exact ih52 _ _ _ _ _ (lv_sub hl [2, 3, 4, 1, 0] rfl) hW hS hf
                exact lp52 n52 _ _ _ _ _ (lv_sub hl [2, 3, 4, 1, 0] rfl) hW hS hf
        exact lp29 n29 _ _ _ _ _ (lv_sub hl [1, 2, 0] rfl) hW hS hf
      · replace hf := hf.2 c3
        refine lv_aload_n hx hb dX12_judge_9 rfl (lv_at hl 0 rfl) ?_
        obtain ⟨k90, hf⟩ := hf
        obtain ⟨b91, hb91, hf⟩ := hf
        refine gm_getR (C := RX12) (T := TX12) (N := 68) (j := 60) hx hb hts inT_12 hown hK hW k90 (by decide) rfl (by decide) rfl (hts _ kw_1376) rfl dX12_judge_10 hb91 ?_
        refine lv_iload_n hx hb dX12_judge_13 rfl (lv_at hl 2 rfl) ?_
        refine lv_iconst (v := -1) hx hb dX12_judge_14 (by decide +kernel) ?_
        obtain ⟨k92, hf⟩ := hf
        obtain ⟨h93, hf⟩ := hf
        refine gm_iast hx hb hK hW hS k92 h93 dX12_judge_15 (fun H locs M94 eM94 hW hS => ?_)
        replace hf := hf M94 eM94
        obtain ⟨x95, ex95⟩ : ∃ y : Int32, y = x1 + 1 := ⟨_, rfl⟩
        replace hf := hf x95 ex95
        refine lv_iinc (v := x95) (lv' := [(2, .int x95), (0, .ref v0), (1, .int v1)]) hx hb dX12_judge_16 hl (k := 2) rfl (by rw [ex95]; rfl) (by decide) rfl (fun ls hl => ?_)
        refine lv_goto (tgt := 2) hx hb dX12_judge_19 (by decide) ?_
        exact ih2 _ _ _ _ _ (lv_sub hl [1, 2, 0] rfl) hW hS hf
  exact lp2 n2 _ _ _ _ _ (lv_sub hl [1, 2, 0] rfl) hW hS hf

abbrev rm_X12_isKnown : Room := { frames := 5, cells := 0, slots := 0, locals := 152 }
def f_X12_isKnown_38 (Y : Ly) (x2 : Int32) (again4 : Int32 → Int32 → Mm → Prop) (y5 : Int32) (M6 : Mm) : Prop :=
  ∀ x7 : Int32, x7 = x2 + 1 → (again4 y5 x7 M6)
def f_X12_isKnown_33 (Y : Ly) (x2 : Int32) (again4 : Int32 → Int32 → Mm → Prop) (M8 : Mm) : Prop :=
  f_X12_isKnown_38 Y x2 again4 1 M8
def L_X12_isKnown_4 (Y : Ly) (v0 : Nat) (v1 : Int32) (Kn : Int32 → Mm → Prop) (x1 : Int32) (x2 : Int32) (M3 : Mm) (again4 : Int32 → Int32 → Mm → Prop) : Prop :=
  (5 ≤ x2 → (bz x1 ∧ Kn x1 M3)) ∧ (¬ (5 ≤ x2) → ((¬ x1 = 0 → (f_X12_isKnown_33 Y x2 again4 M3)) ∧ (x1 = 0 → (yK Y v0 = 12 ∧ (∃ b11 : Nat, mR M3 v0 19 = some b11 ∧ (yK Y b11 = 101 ∧ (vp_in v1 (yN Y b11) ∧ (f_X12_producerOf Y v0 v1 M3 (fun r15 M14 => (f_X12_knownOne Y v0 (mI M3 b11 v1.toNatClampNeg) r15 x2 M14 (fun r17 M16 => ((¬ r17 = v1 → (f_X12_isKnown_38 Y x2 again4 0 M16)) ∧ (r17 = v1 → (f_X12_isKnown_33 Y x2 again4 M16))))))))))))))
def f_X12_isKnown (Y : Ly) (v0 : Nat) (v1 : Int32) (M : Mm) (Kn : Int32 → Mm → Prop) : Prop :=
  ∃ n, LOOP3 (L_X12_isKnown_4 Y v0 v1 Kn) n 0 0 M
set_option maxHeartbeats 4000000 in
set_option maxRecDepth 100000 in
theorem m_X12_isKnown (l : Launch) (D : va_G) (cy : Cy) (tq sz : Nat) (Y : Ly) (v0 : Nat) (v1 : Int32) (M : Mm) (Kn : Int32 → Mm → Prop) : Met l yX12_isKnown (Cond.code yX12_isKnown cX12_isKnown 4 (some .boolean) :: TT) rm_X12_isKnown (PcG D cy tq [.ref v0, .int v1] sz Y M (f_X12_isKnown Y v0 v1 M Kn)) (va_Qi Kn (BG D cy (Am Y sz) Y) (Am Y sz)) 0 0 (Am Y sz) := by
  refine Met.ofW (cc := cX12_isKnown) (maxL := 4) (ret := (some .boolean)) (by decide) rfl ?_
  intro p e s m args below meth c s₁ B hml hv
  obtain ⟨hargs, hsz, hW, hK, hC, hf⟩ := hv
  subst hsz
  have hx := B.exec
  have hb := B.bytes
  have hr := B.returns
  have hts : ∀ w ∈ TT, w.before args s = true := fun w h => atoms_spec (ws := Cond.code yX12_isKnown cX12_isKnown 4 (some .boolean) :: TT) B.pre w (List.mem_cons_of_mem _ h)
  have hown : s.vm.findClass RX12 = some m.cls := findClass_of_methodNamed B.named
  have hlocks := B.notSynchronized
  replace hW := Wd_self (sz := s.heap.size) hW
  generalize hAe : Am Y s.heap.size = A at hW hC ⊢
  have hA : ∀ q : Nat, s.heap.size ≤ q → A q := fun q h => by rw [← hAe]; exact Or.inr h
  clear hAe
  have hS : va_S A s.heap s.heap [] := va_S.rf
  obtain ⟨ls, hE, hl⟩ := gm_entry m [.ref v0, .int v1] (n := 4) hargs (Nat.le_of_ble_eq_true rfl)
  rw [hE]
  have hl : lv_has ls 4 [(0, .ref v0), (1, .int v1)] := hl
  show W p l e rm_X12_isKnown s m args below meth c s.heap [] 0 0 (MQ below (va_Qi Kn (BG D cy A Y) A) args s 0 0 A) (F0 m 0 ls [])
  unfold f_X12_isKnown at hf
  refine lv_iconst (v := 0) hx hb dX12_isKnown_0 (by decide +kernel) ?_
  refine lv_istore_n (lv' := [(2, .int 0), (0, .ref v0), (1, .int v1)]) hx hb dX12_isKnown_1 rfl hl (by decide) rfl (fun ls hl => ?_)
  refine lv_iconst (v := 0) hx hb dX12_isKnown_2 (by decide +kernel) ?_
  refine lv_istore_n (lv' := [(3, .int 0), (2, .int 0), (0, .ref v0), (1, .int v1)]) hx hb dX12_isKnown_3 rfl hl (by decide) rfl (fun ls hl => ?_)
  obtain ⟨n4, hf⟩ := hf
  have lp4 : ∀ (n4 : Nat) (x1 : Int32) (x2 : Int32) (M3 : Mm) (H : Heap) (locs : List Loc) (ls : Array Slot), lv_has ls 4 [(0, .ref v0), (1, .int v1), (2, .int x1), (3, .int x2)] → Wd D cy A Y M3 H → va_S A s.heap H locs → LOOP3 (L_X12_isKnown_4 Y v0 v1 Kn) n4 x1 x2 M3 → W p l e rm_X12_isKnown s m args below meth c H locs 0 0 (MQ below (va_Qi Kn (BG D cy A Y) A) args s 0 0 A) (F0 m 4 ls []) := by
    intro n4
    induction n4 with
    | zero => intro x1 x2 M3 H locs ls hl hW hS hf; exact hf.elim
    | succ n4 ih4 =>
      intro x1 x2 M3 H locs ls hl hW hS hf
      replace hf : L_X12_isKnown_4 Y v0 v1 Kn x1 x2 M3 (LOOP3 (L_X12_isKnown_4 Y v0 v1 Kn) n4) := hf
      unfold L_X12_isKnown_4 at hf
      refine lv_iload_n hx hb dX12_isKnown_4 rfl (lv_at hl 3 rfl) ?_
      refine lv_iconst (v := 5) hx hb dX12_isKnown_5 (by decide +kernel) ?_
      refine lv_icmp_ge (tgt := 45) hx hb dX12_isKnown_6 (by decide) (fun c4 => ?_) (fun c4 => ?_)
      · replace hf := hf.1 c4
        refine lv_iload_n hx hb dX12_isKnown_45 rfl (lv_at hl 2 rfl) ?_
        exact gm_zret hx hb hr hlocks hW hS hf.1 hf.2 dX12_isKnown_46
      · replace hf := hf.2 c4
        refine lv_iload_n hx hb dX12_isKnown_9 rfl (lv_at hl 2 rfl) ?_
        have j38 : ∀ (y5 : Int32) (M6 : Mm) (H : Heap) (locs : List Loc) (ls : Array Slot), lv_has ls 4 [(0, .ref v0), (1, .int v1), (3, .int x2)] → Wd D cy A Y M6 H → va_S A s.heap H locs → f_X12_isKnown_38 Y x2 (LOOP3 (L_X12_isKnown_4 Y v0 v1 Kn) n4) y5 M6 → W p l e rm_X12_isKnown s m args below meth c H locs 0 0 (MQ below (va_Qi Kn (BG D cy A Y) A) args s 0 0 A) (F0 m 38 ls [.int y5]) := by
          intro y5 M6 H locs ls hl hW hS hf
          unfold f_X12_isKnown_38 at hf
          refine lv_istore_n (lv' := [(2, .int y5), (0, .ref v0), (1, .int v1), (3, .int x2)]) hx hb dX12_isKnown_38 rfl hl (by decide) rfl (fun ls hl => ?_)
          obtain ⟨x7, ex7⟩ : ∃ y : Int32, y = x2 + 1 := ⟨_, rfl⟩
          replace hf := hf x7 ex7
          refine lv_iinc (v := x7) (lv' := [(3, .int x7), (2, .int y5), (0, .ref v0), (1, .int v1)]) hx hb dX12_isKnown_39 hl (k := 3) rfl (by rw [ex7]; rfl) (by decide) rfl (fun ls hl => ?_)
          refine lv_goto (tgt := 4) hx hb dX12_isKnown_42 (by decide) ?_
          exact ih4 _ _ _ _ _ _ (lv_sub hl [2, 3, 1, 0] rfl) hW hS hf
        have j33 : ∀ (M8 : Mm) (H : Heap) (locs : List Loc) (ls : Array Slot), lv_has ls 4 [(0, .ref v0), (1, .int v1), (3, .int x2)] → Wd D cy A Y M8 H → va_S A s.heap H locs → f_X12_isKnown_33 Y x2 (LOOP3 (L_X12_isKnown_4 Y v0 v1 Kn) n4) M8 → W p l e rm_X12_isKnown s m args below meth c H locs 0 0 (MQ below (va_Qi Kn (BG D cy A Y) A) args s 0 0 A) (F0 m 33 ls []) := by
          intro M8 H locs ls hl hW hS hf
          unfold f_X12_isKnown_33 at hf
          refine lv_iconst (v := 1) hx hb dX12_isKnown_33 (by decide +kernel) ?_
          refine lv_goto (tgt := 38) hx hb dX12_isKnown_34 (by decide) ?_
          exact j38 _ _ _ _ _ (lv_sub hl [0, 1, 2] rfl) hW hS hf
        refine lv_if_ne (tgt := 33) hx hb dX12_isKnown_10 (by decide) (fun c9 => ?_) (fun c9 => ?_)
        · replace hf := hf.1 c9
          exact j33 _ _ _ _ (lv_sub hl [0, 1, 3] rfl) hW hS hf
        · replace hf := hf.2 c9
          refine lv_aload_n hx hb dX12_isKnown_13 rfl (lv_at hl 0 rfl) ?_
          refine lv_aload_n hx hb dX12_isKnown_14 rfl (lv_at hl 0 rfl) ?_
          obtain ⟨k10, hf⟩ := hf
          obtain ⟨b11, hb11, hf⟩ := hf
          refine gm_getR (C := RX12) (T := TX12) (N := 68) (j := 19) hx hb hts inT_12 hown hK hW k10 (by decide) rfl (by decide) rfl (hts _ kw_1335) rfl dX12_isKnown_15 hb11 ?_
          refine lv_iload_n hx hb dX12_isKnown_18 rfl (lv_at hl 1 rfl) ?_
          obtain ⟨k12, hf⟩ := hf
          obtain ⟨h13, hf⟩ := hf
          refine gm_iald hx hb hK hW k12 h13 dX12_isKnown_19 ?_
          refine lv_aload_n hx hb dX12_isKnown_20 rfl (lv_at hl 0 rfl) ?_
          refine lv_iload_n hx hb dX12_isKnown_21 rfl (lv_at hl 1 rfl) ?_
          refine gm_cl (va_runV (As := [.int v1]) (rest := [.int (mI M3 b11 v1.toNatClampNeg), .ref v0]) ⟨hx, hb, hml, hown, hts⟩ (m_X12_producerOf l D cy tq _ Y _ _ _ _) (cwV 1 hts (good_V kw_1575 kw_1576 kw_1841 kw_12 kw_1577) rfl rfl rfl (by decide +kernel) ⟨Nat.le_of_ble_eq_true rfl, Nat.le_of_ble_eq_true rfl⟩) (gm_preV hK hW hC hS hA k10 (by decide) (q := (RX12, TX12, 68)) rfl rfl hf) rfl rfl hl.1 rfl (lv_room (Nat.le_of_ble_eq_true rfl)) dX12_isKnown_22 ⟨Nat.le_of_ble_eq_true rfl, Nat.le_of_ble_eq_true rfl⟩) hW hS hA (fun r15 M14 H locs hW hS hf => ?_)
          refine lv_iload_n hx hb dX12_isKnown_25 rfl (lv_at hl 3 rfl) ?_
          refine gm_ci (va_runV (As := [.int (mI M3 b11 v1.toNatClampNeg), .long r15, .int x2]) (rest := []) ⟨hx, hb, hml, hown, hts⟩ (m_X12_knownOne l D cy tq _ Y _ _ _ _ _ _) (cwV 3 hts (good_V kw_1572 kw_1573 kw_1840 kw_12 kw_1574) rfl rfl rfl (by decide +kernel) ⟨Nat.le_of_ble_eq_true rfl, Nat.le_of_ble_eq_true rfl⟩) (gm_preV hK hW hC hS hA k10 (by decide) (q := (RX12, TX12, 68)) rfl rfl hf) rfl rfl hl.1 rfl (lv_room (Nat.le_of_ble_eq_true rfl)) dX12_isKnown_26 ⟨Nat.le_of_ble_eq_true rfl, Nat.le_of_ble_eq_true rfl⟩) hW hS hA (fun r17 M16 H locs hW hS hf => ?_)
          refine lv_iload_n hx hb dX12_isKnown_29 rfl (lv_at hl 1 rfl) ?_
          refine lv_icmp_ne (tgt := 37) hx hb dX12_isKnown_30 (by decide) (fun c18 => ?_) (fun c18 => ?_)
          · replace hf := hf.1 c18
            refine lv_iconst (v := 0) hx hb dX12_isKnown_37 (by decide +kernel) ?_
            exact j38 _ _ _ _ _ (lv_sub hl [0, 1, 3] rfl) hW hS hf
          · replace hf := hf.2 c18
            exact j33 _ _ _ _ (lv_sub hl [0, 1, 3] rfl) hW hS hf
  exact lp4 n4 _ _ _ _ _ _ (lv_sub hl [2, 3, 1, 0] rfl) hW hS hf

abbrev rm_X12_strip : Room := { frames := 6, cells := 0, slots := 0, locals := 175 }
def f_X12_strip_356 (Y : Ly) (v2 : Int32) (Kn : Int32 → Mm → Prop) (x12 : Int32) (M46 : Mm) : Prop :=
  Kn (x12 - v2) M46
def f_X12_strip_281 (Y : Ly) (v0 : Nat) (v1 : Int32) (v2 : Int32) (Kn : Int32 → Mm → Prop) (x10 : Int32) (x12 : Int32) (M29 : Mm) : Prop :=
  ∃ b30 : Nat, mR M29 v0 23 = some b30 ∧ (∃ b31 : Nat, mR M29 v0 62 = some b31 ∧ (yK Y b31 = 101 ∧ (vp_in v1 (yN Y b31) ∧ (f_X12_set Y b30 ((mI M29 b31 v1.toNatClampNeg) + 57) x10.toInt64 4 M29 (fun M34 => (∃ b35 : Nat, mR M34 v0 23 = some b35 ∧ (∃ b36 : Nat, mR M34 v0 62 = some b36 ∧ (yK Y b36 = 101 ∧ (vp_in v1 (yN Y b36) ∧ (∃ b39 : Nat, mR M34 v0 23 = some b39 ∧ (∃ b40 : Nat, mR M34 v0 62 = some b40 ∧ (yK Y b40 = 101 ∧ (vp_in v1 (yN Y b40) ∧ (f_X12_sum Y b39 ((mI M34 b40 v1.toNatClampNeg) + 21) (mI M34 v0 25) M34 (fun r44 M43 => (f_X12_set Y b35 ((mI M34 b36 v1.toNatClampNeg) + 17) r44 4 M43 (fun M45 => ((¬ x10 = 0 → (f_X12_strip_356 Y v2 Kn x12 M45)) ∧ (x10 = 0 → (f_X12_isKnown Y v0 v1 M45 (fun r49 M48 => ((¬ r49 = 0 → (f_X12_strip_356 Y v2 Kn x12 M48)) ∧ (r49 = 0 → (∃ b51 : Nat, mR M48 v0 63 = some b51 ∧ (yK Y b51 = 101 ∧ (vp_in v1 (yN Y b51) ∧ (∀ M54 : Mm, M54 = sI M48 b51 (m1 (mI M48 b51) v1.toNatClampNeg 0) → (f_X12_strip_356 Y v2 Kn x12 M54))))))))))))))))))))))))))))
def f_X12_strip_213 (Y : Ly) (v0 : Nat) (v1 : Int32) (v2 : Int32) (Kn : Int32 → Mm → Prop) (x10 : Int32) (x11 : Int64) (x12 : Int32) (M13 : Mm) : Prop :=
  ∃ b14 : Nat, mR M13 v0 63 = some b14 ∧ (∃ b15 : Nat, mR M13 v0 62 = some b15 ∧ (yK Y b15 = 101 ∧ (vp_in v1 (yN Y b15) ∧ (yK Y b14 = 101 ∧ (vp_in v1 (yN Y b14) ∧ (∀ M20 : Mm, M20 = sI M13 b14 (m1 (mI M13 b14) v1.toNatClampNeg ((mI M13 v0 25) - (mI M13 b15 v1.toNatClampNeg))) → (∃ b21 : Nat, mR M20 v0 23 = some b21 ∧ (∃ b22 : Nat, mR M20 v0 62 = some b22 ∧ (yK Y b22 = 101 ∧ (vp_in v1 (yN Y b22) ∧ (∃ b25 : Nat, mR M20 v0 63 = some b25 ∧ (yK Y b25 = 101 ∧ (vp_in v1 (yN Y b25) ∧ (f_X12_set Y b21 ((mI M20 b22 v1.toNatClampNeg) + 8) (((mI M20 b25 v1.toNatClampNeg) - 12).toInt64) 4 M20 (fun M28 => ((x10 ≤ 0 → (f_X12_strip_281 Y v0 v1 v2 Kn x10 x12 M28)) ∧ (¬ (x10 ≤ 0) → (∃ b56 : Nat, mR M28 v0 23 = some b56 ∧ (∃ b57 : Nat, mR M28 v0 62 = some b57 ∧ (yK Y b57 = 101 ∧ (vp_in v1 (yN Y b57) ∧ (f_X12_set Y b56 ((mI M28 b57 v1.toNatClampNeg) + 35) x11 8 M28 (fun M60 => (f_X12_strip_281 Y v0 v1 v2 Kn x10 x12 M60))))))))))))))))))))))))
def f_X12_strip_207 (Y : Ly) (x12 : Int32) (again67 : Int32 → Int64 → Int32 → Mm → Prop) (x69 : Int32) (x70 : Int64) (M71 : Mm) : Prop :=
  ∀ x72 : Int32, x72 = x12 + 1 → (again67 x69 x70 x72 M71)
def L_X12_strip_160 (Y : Ly) (v0 : Nat) (x10 : Int32) (x12 : Int32) (again67 : Int32 → Int64 → Int32 → Mm → Prop) (y86 : Int64) (x91 : Int32) (M92 : Mm) (again160 : Int32 → Mm → Prop) : Prop :=
  ∃ b93 : Nat, mR M92 v0 56 = some b93 ∧ (yK Y b93 = 101 ∧ (vp_in x12 (yN Y b93) ∧ (((mI M92 b93 x12.toNatClampNeg) ≤ x91 → (∀ x97 : Int32, x97 = x10 + 1 → (f_X12_strip_207 Y x12 again67 x97 y86 M92))) ∧ (¬ ((mI M92 b93 x12.toNatClampNeg) ≤ x91) → (∃ b98 : Nat, mR M92 v0 23 = some b98 ∧ (∃ b99 : Nat, mR M92 v0 23 = some b99 ∧ (yK Y b99 = 101 ∧ (vp_in x91 (yN Y b99) ∧ (yK Y b98 = 101 ∧ (vp_in (mI M92 v0 25) (yN Y b98) ∧ (∀ M104 : Mm, M104 = sI M92 b98 (m1 (mI M92 b98) (mI M92 v0 25).toNatClampNeg (mI M92 b99 x91.toNatClampNeg)) → (∀ M105 : Mm, M105 = sI M104 v0 (m1 (mI M104 v0) 25 ((mI M104 v0 25) + 1)) → (∀ x106 : Int32, x106 = x91 + 1 → (again160 x106 M105))))))))))))))
def f_X12_strip_149 (Y : Ly) (v0 : Nat) (x10 : Int32) (x12 : Int32) (again67 : Int32 → Int64 → Int32 → Mm → Prop) (M84 : Mm) (y86 : Int64) : Prop :=
  ∃ b87 : Nat, mR M84 v0 55 = some b87 ∧ (yK Y b87 = 101 ∧ (vp_in x12 (yN Y b87) ∧ (∀ x90 : Int32, x90 = mI M84 b87 x12.toNatClampNeg → (∃ n, LOOP2 (L_X12_strip_160 Y v0 x10 x12 again67 y86) n x90 M84))))
def L_X12_strip_67 (Y : Ly) (v0 : Nat) (v1 : Int32) (v2 : Int32) (Kn : Int32 → Mm → Prop) (x10 : Int32) (x11 : Int64) (x12 : Int32) (M13 : Mm) (again67 : Int32 → Int64 → Int32 → Mm → Prop) : Prop :=
  ((mI M13 v0 53) ≤ x12 → (f_X12_strip_213 Y v0 v1 v2 Kn x10 x11 x12 M13)) ∧ (¬ ((mI M13 v0 53) ≤ x12) → (∃ b62 : Nat, mR M13 v0 54 = some b62 ∧ (yK Y b62 = 101 ∧ (vp_in x12 (yN Y b62) ∧ ((¬ (mI M13 b62 x12.toNatClampNeg) = v1 → (f_X12_strip_213 Y v0 v1 v2 Kn x10 x11 x12 M13)) ∧ ((mI M13 b62 x12.toNatClampNeg) = v1 → (∃ b66 : Nat, mR M13 v0 59 = some b66 ∧ (yK Y b66 = 103 ∧ (vp_in x12 (yN Y b66) ∧ ((¬ (mI M13 b66 x12.toNatClampNeg) = 0 → (f_X12_strip_207 Y x12 again67 x10 x11 M13)) ∧ ((mI M13 b66 x12.toNatClampNeg) = 0 → (∃ b74 : Nat, mR M13 v0 23 = some b74 ∧ (∃ b75 : Nat, mR M13 v0 55 = some b75 ∧ (yK Y b75 = 101 ∧ (vp_in x12 (yN Y b75) ∧ (∃ b78 : Nat, mR M13 v0 56 = some b78 ∧ (yK Y b78 = 101 ∧ (vp_in x12 (yN Y b78) ∧ (f_X12_reads Y v0 b74 (mI M13 b75 x12.toNatClampNeg) (mI M13 b78 x12.toNatClampNeg) M13 (fun M81 => (f_X12_firstTime Y v0 v1 M81 (fun r83 M82 => (f_X12_readRecord Y v0 r83 M82 (fun r85 M84 => (((mJ M84 v0 47) ≤ x11 → (f_X12_strip_149 Y v0 x10 x12 again67 M84 x11)) ∧ (¬ ((mJ M84 v0 47) ≤ x11) → (f_X12_strip_149 Y v0 x10 x12 again67 M84 (mJ M84 v0 47))))))))))))))))))))))))))))
def L_X12_strip_12 (Y : Ly) (v0 : Nat) (v1 : Int32) (v2 : Int32) (Kn : Int32 → Mm → Prop) (x6 : Int32) (M7 : Mm) (again12 : Int32 → Mm → Prop) : Prop :=
  (61 ≤ x6 → (∀ M9 : Mm, M9 = sI M7 v0 (m1 (mI M7 v0) 25 ((mI M7 v0 25) + 61)) → (∃ n, LOOP4 (L_X12_strip_67 Y v0 v1 v2 Kn) n 0 0 v2 M9))) ∧ (¬ (61 ≤ x6) → (∃ b108 : Nat, mR M7 v0 23 = some b108 ∧ (∃ b109 : Nat, mR M7 v0 23 = some b109 ∧ (∃ b110 : Nat, mR M7 v0 20 = some b110 ∧ (yK Y b110 = 101 ∧ (vp_in v1 (yN Y b110) ∧ (yK Y b109 = 101 ∧ (vp_in ((mI M7 b110 v1.toNatClampNeg) + x6) (yN Y b109) ∧ (yK Y b108 = 101 ∧ (vp_in ((mI M7 v0 25) + x6) (yN Y b108) ∧ (∀ M117 : Mm, M117 = sI M7 b108 (m1 (mI M7 b108) ((mI M7 v0 25) + x6).toNatClampNeg (mI M7 b109 ((mI M7 b110 v1.toNatClampNeg) + x6).toNatClampNeg)) → (∀ x118 : Int32, x118 = x6 + 1 → (again12 x118 M117)))))))))))))
def f_X12_strip (Y : Ly) (v0 : Nat) (v1 : Int32) (v2 : Int32) (M : Mm) (Kn : Int32 → Mm → Prop) : Prop :=
  yK Y v0 = 12 ∧ (∃ b2 : Nat, mR M v0 62 = some b2 ∧ (yK Y b2 = 101 ∧ (vp_in v1 (yN Y b2) ∧ (∀ M5 : Mm, M5 = sI M b2 (m1 (mI M b2) v1.toNatClampNeg (mI M v0 25)) → (∃ n, LOOP2 (L_X12_strip_12 Y v0 v1 v2 Kn) n 0 M5)))))
set_option maxHeartbeats 4000000 in
set_option maxRecDepth 100000 in
theorem m_X12_strip (l : Launch) (D : va_G) (cy : Cy) (tq sz : Nat) (Y : Ly) (v0 : Nat) (v1 : Int32) (v2 : Int32) (M : Mm) (Kn : Int32 → Mm → Prop) : Met l yX12_strip (Cond.code yX12_strip cX12_strip 9 (some .int) :: TT) rm_X12_strip (PcG D cy tq [.ref v0, .int v1, .int v2] sz Y M (f_X12_strip Y v0 v1 v2 M Kn)) (va_Qi Kn (BG D cy (Am Y sz) Y) (Am Y sz)) 0 0 (Am Y sz) := by
  refine Met.ofW (cc := cX12_strip) (maxL := 9) (ret := (some .int)) (by decide) rfl ?_
  intro p e s m args below meth c s₁ B hml hv
  obtain ⟨hargs, hsz, hW, hK, hC, hf⟩ := hv
  subst hsz
  have hx := B.exec
  have hb := B.bytes
  have hr := B.returns
  have hts : ∀ w ∈ TT, w.before args s = true := fun w h => atoms_spec (ws := Cond.code yX12_strip cX12_strip 9 (some .int) :: TT) B.pre w (List.mem_cons_of_mem _ h)
  have hown : s.vm.findClass RX12 = some m.cls := findClass_of_methodNamed B.named
  have hlocks := B.notSynchronized
  replace hW := Wd_self (sz := s.heap.size) hW
  generalize hAe : Am Y s.heap.size = A at hW hC ⊢
  have hA : ∀ q : Nat, s.heap.size ≤ q → A q := fun q h => by rw [← hAe]; exact Or.inr h
  clear hAe
  have hS : va_S A s.heap s.heap [] := va_S.rf
  obtain ⟨ls, hE, hl⟩ := gm_entry m [.ref v0, .int v1, .int v2] (n := 9) hargs (Nat.le_of_ble_eq_true rfl)
  rw [hE]
  have hl : lv_has ls 9 [(0, .ref v0), (1, .int v1), (2, .int v2)] := hl
  show W p l e rm_X12_strip s m args below meth c s.heap [] 0 0 (MQ below (va_Qi Kn (BG D cy A Y) A) args s 0 0 A) (F0 m 0 ls [])
  unfold f_X12_strip at hf
  refine lv_aload_n hx hb dX12_strip_0 rfl (lv_at hl 0 rfl) ?_
  obtain ⟨k1, hf⟩ := hf
  obtain ⟨b2, hb2, hf⟩ := hf
  refine gm_getR (C := RX12) (T := TX12) (N := 68) (j := 62) hx hb hts inT_12 hown hK hW k1 (by decide) rfl (by decide) rfl (hts _ kw_1378) rfl dX12_strip_1 hb2 ?_
  refine lv_iload_n hx hb dX12_strip_4 rfl (lv_at hl 1 rfl) ?_
  refine lv_aload_n hx hb dX12_strip_5 rfl (lv_at hl 0 rfl) ?_
  refine gm_getI (C := RX12) (T := TX12) (N := 68) (j := 25) hx hb hts inT_12 hown hK hW k1 (by decide) rfl (by decide) rfl (hts _ kw_1341) rfl dX12_strip_6 ?_
  obtain ⟨k3, hf⟩ := hf
  obtain ⟨h4, hf⟩ := hf
  refine gm_iast hx hb hK hW hS k3 h4 dX12_strip_9 (fun H locs M5 eM5 hW hS => ?_)
  replace hf := hf M5 eM5
  refine lv_iconst (v := 0) hx hb dX12_strip_10 (by decide +kernel) ?_
  refine lv_istore_n (lv' := [(3, .int 0), (0, .ref v0), (1, .int v1), (2, .int v2)]) hx hb dX12_strip_11 rfl hl (by decide) rfl (fun ls hl => ?_)
  obtain ⟨n12, hf⟩ := hf
  have lp12 : ∀ (n12 : Nat) (x6 : Int32) (M7 : Mm) (H : Heap) (locs : List Loc) (ls : Array Slot), lv_has ls 9 [(0, .ref v0), (1, .int v1), (2, .int v2), (3, .int x6)] → Wd D cy A Y M7 H → va_S A s.heap H locs → LOOP2 (L_X12_strip_12 Y v0 v1 v2 Kn) n12 x6 M7 → W p l e rm_X12_strip s m args below meth c H locs 0 0 (MQ below (va_Qi Kn (BG D cy A Y) A) args s 0 0 A) (F0 m 12 ls []) := by
    intro n12
    induction n12 with
    | zero => intro x6 M7 H locs ls hl hW hS hf; exact hf.elim
    | succ n12 ih12 =>
      intro x6 M7 H locs ls hl hW hS hf
      replace hf : L_X12_strip_12 Y v0 v1 v2 Kn x6 M7 (LOOP2 (L_X12_strip_12 Y v0 v1 v2 Kn) n12) := hf
      unfold L_X12_strip_12 at hf
      refine lv_iload_n hx hb dX12_strip_12 rfl (lv_at hl 3 rfl) ?_
      refine lv_bipush (v := 61) hx hb dX12_strip_13 (by decide +kernel) ?_
      refine lv_icmp_ge (tgt := 48) hx hb dX12_strip_15 (by decide) (fun c8 => ?_) (fun c8 => ?_)
      · replace hf := hf.1 c8
        refine lv_aload_n hx hb dX12_strip_48 rfl (lv_at hl 0 rfl) ?_
        refine lv_dup hx hb dX12_strip_49 rfl ?_
        refine gm_getI (C := RX12) (T := TX12) (N := 68) (j := 25) hx hb hts inT_12 hown hK hW k1 (by decide) rfl (by decide) rfl (hts _ kw_1341) rfl dX12_strip_50 ?_
        refine lv_bipush (v := 61) hx hb dX12_strip_53 (by decide +kernel) ?_
        refine lv_iadd hx hb dX12_strip_55 ?_
        refine gm_putI (C := RX12) (T := TX12) (N := 68) (j := 25) hx hb hts inT_12 tyX12 tyX12_ok nmX12 hown hK hW hS k1 (by decide) rfl (by decide) rfl (hts _ kw_1341) rfl rfl rfl rfl dX12_strip_56 (fun H locs M9 eM9 hW hS => ?_)
        replace hf := hf M9 eM9
        refine lv_iconst (v := 0) hx hb dX12_strip_59 (by decide +kernel) ?_
        refine lv_istore_n (lv' := [(3, .int 0), (0, .ref v0), (1, .int v1), (2, .int v2)]) hx hb dX12_strip_60 rfl hl (by decide) rfl (fun ls hl => ?_)
        refine lv_lconst (v := 0) hx hb dX12_strip_61 (by decide) ?_
        refine lv_lstore (lv' := [(4, .long 0), (3, .int 0), (0, .ref v0), (1, .int v1), (2, .int v2)]) hx hb dX12_strip_62 hl (by decide) rfl (fun ls hl => ?_)
        refine lv_iload_n hx hb dX12_strip_64 rfl (lv_at hl 4 rfl) ?_
        refine lv_istore (lv' := [(6, .int v2), (4, .long 0), (3, .int 0), (0, .ref v0), (1, .int v1), (2, .int v2)]) hx hb dX12_strip_65 hl (by decide) rfl (fun ls hl => ?_)
        obtain ⟨n67, hf⟩ := hf
        have lp67 : ∀ (n67 : Nat) (x10 : Int32) (x11 : Int64) (x12 : Int32) (M13 : Mm) (H : Heap) (locs : List Loc) (ls : Array Slot), lv_has ls 9 [(0, .ref v0), (1, .int v1), (2, .int v2), (3, .int x10), (4, .long x11), (6, .int x12)] → Wd D cy A Y M13 H → va_S A s.heap H locs → LOOP4 (L_X12_strip_67 Y v0 v1 v2 Kn) n67 x10 x11 x12 M13 → W p l e rm_X12_strip s m args below meth c H locs 0 0 (MQ below (va_Qi Kn (BG D cy A Y) A) args s 0 0 A) (F0 m 67 ls []) := by
          intro n67
          induction n67 with
          | zero => intro x10 x11 x12 M13 H locs ls hl hW hS hf; exact hf.elim
          | succ n67 ih67 =>
            intro x10 x11 x12 M13 H locs ls hl hW hS hf
            replace hf : L_X12_strip_67 Y v0 v1 v2 Kn x10 x11 x12 M13 (LOOP4 (L_X12_strip_67 Y v0 v1 v2 Kn) n67) := hf
            unfold L_X12_strip_67 at hf
            refine lv_iload hx hb dX12_strip_67 (lv_at hl 5 rfl) ?_
            refine lv_aload_n hx hb dX12_strip_69 rfl (lv_at hl 0 rfl) ?_
            refine gm_getI (C := RX12) (T := TX12) (N := 68) (j := 53) hx hb hts inT_12 hown hK hW k1 (by decide) rfl (by decide) rfl (hts _ kw_1369) rfl dX12_strip_70 ?_
            have j213 : ∀ (H : Heap) (locs : List Loc) (ls : Array Slot), lv_has ls 9 [(0, .ref v0), (1, .int v1), (2, .int v2), (3, .int x10), (4, .long x11), (6, .int x12)] → Wd D cy A Y M13 H → va_S A s.heap H locs → f_X12_strip_213 Y v0 v1 v2 Kn x10 x11 x12 M13  → W p l e rm_X12_strip s m args below meth c H locs 0 0 (MQ below (va_Qi Kn (BG D cy A Y) A) args s 0 0 A) (F0 m 213 ls []) := by
              intro  H locs ls hl hW hS hf
              unfold f_X12_strip_213 at hf
              refine lv_aload_n hx hb dX12_strip_213 rfl (lv_at hl 0 rfl) ?_
              obtain ⟨b14, hb14, hf⟩ := hf
              refine gm_getR (C := RX12) (T := TX12) (N := 68) (j := 63) hx hb hts inT_12 hown hK hW k1 (by decide) rfl (by decide) rfl (hts _ kw_1379) rfl dX12_strip_214 hb14 ?_
              refine lv_iload_n hx hb dX12_strip_217 rfl (lv_at hl 1 rfl) ?_
              refine lv_aload_n hx hb dX12_strip_218 rfl (lv_at hl 0 rfl) ?_
              refine gm_getI (C := RX12) (T := TX12) (N := 68) (j := 25) hx hb hts inT_12 hown hK hW k1 (by decide) rfl (by decide) rfl (hts _ kw_1341) rfl dX12_strip_219 ?_
              refine lv_aload_n hx hb dX12_strip_222 rfl (lv_at hl 0 rfl) ?_
              obtain ⟨b15, hb15, hf⟩ := hf
              refine gm_getR (C := RX12) (T := TX12) (N := 68) (j := 62) hx hb hts inT_12 hown hK hW k1 (by decide) rfl (by decide) rfl (hts _ kw_1378) rfl dX12_strip_223 hb15 ?_
              refine lv_iload_n hx hb dX12_strip_226 rfl (lv_at hl 1 rfl) ?_
              obtain ⟨k16, hf⟩ := hf
              obtain ⟨h17, hf⟩ := hf
              refine gm_iald hx hb hK hW k16 h17 dX12_strip_227 ?_
              refine lv_isub hx hb dX12_strip_228 ?_
              obtain ⟨k18, hf⟩ := hf
              obtain ⟨h19, hf⟩ := hf
              refine gm_iast hx hb hK hW hS k18 h19 dX12_strip_229 (fun H locs M20 eM20 hW hS => ?_)
              replace hf := hf M20 eM20
              refine lv_aload_n hx hb dX12_strip_230 rfl (lv_at hl 0 rfl) ?_
              obtain ⟨b21, hb21, hf⟩ := hf
              refine gm_getR (C := RX12) (T := TX12) (N := 68) (j := 23) hx hb hts inT_12 hown hK hW k1 (by decide) rfl (by decide) rfl (hts _ kw_1339) rfl dX12_strip_231 hb21 ?_
              refine lv_aload_n hx hb dX12_strip_234 rfl (lv_at hl 0 rfl) ?_
              obtain ⟨b22, hb22, hf⟩ := hf
              refine gm_getR (C := RX12) (T := TX12) (N := 68) (j := 62) hx hb hts inT_12 hown hK hW k1 (by decide) rfl (by decide) rfl (hts _ kw_1378) rfl dX12_strip_235 hb22 ?_
              refine lv_iload_n hx hb dX12_strip_238 rfl (lv_at hl 1 rfl) ?_
              obtain ⟨k23, hf⟩ := hf
              obtain ⟨h24, hf⟩ := hf
              refine gm_iald hx hb hK hW k23 h24 dX12_strip_239 ?_
              refine lv_bipush (v := 8) hx hb dX12_strip_240 (by decide +kernel) ?_
              refine lv_iadd hx hb dX12_strip_242 ?_
              refine lv_aload_n hx hb dX12_strip_243 rfl (lv_at hl 0 rfl) ?_
              obtain ⟨b25, hb25, hf⟩ := hf
              refine gm_getR (C := RX12) (T := TX12) (N := 68) (j := 63) hx hb hts inT_12 hown hK hW k1 (by decide) rfl (by decide) rfl (hts _ kw_1379) rfl dX12_strip_244 hb25 ?_
              refine lv_iload_n hx hb dX12_strip_247 rfl (lv_at hl 1 rfl) ?_
              obtain ⟨k26, hf⟩ := hf
              obtain ⟨h27, hf⟩ := hf
              refine gm_iald hx hb hK hW k26 h27 dX12_strip_248 ?_
              refine lv_bipush (v := 12) hx hb dX12_strip_249 (by decide +kernel) ?_
              refine lv_isub hx hb dX12_strip_251 ?_
              refine lv_i2l hx hb dX12_strip_252 rfl ?_
              refine lv_iconst (v := 4) hx hb dX12_strip_253 (by decide +kernel) ?_
              refine gm_cv (va_runS (As := [.ref b21, .int ((mI M20 b22 v1.toNatClampNeg) + 8), .long (((mI M20 b25 v1.toNatClampNeg) - 12).toInt64), .int 4]) (rest := []) ⟨hx, hb, hml, hown, hts⟩ (m_X12_set l D cy tq _ Y _ _ _ _ _ _) (va_cwS 4 hts (good_S kw_1510 kw_1511 kw_12 kw_1512) rfl rfl rfl (by decide +kernel) ⟨Nat.le_of_ble_eq_true rfl, Nat.le_of_ble_eq_true rfl⟩) (gm_preS hK hW hC hS hA hf) rfl rfl hl.1 rfl (lv_room (Nat.le_of_ble_eq_true rfl)) dX12_strip_254 ⟨Nat.le_of_ble_eq_true rfl, Nat.le_of_ble_eq_true rfl⟩) hW hS hA (fun M28 H locs hW hS hf => ?_)
              refine lv_iload_n hx hb dX12_strip_257 rfl (lv_at hl 3 rfl) ?_
              have j281 : ∀ (M29 : Mm) (H : Heap) (locs : List Loc) (ls : Array Slot), lv_has ls 9 [(0, .ref v0), (1, .int v1), (2, .int v2), (3, .int x10), (6, .int x12)] → Wd D cy A Y M29 H → va_S A s.heap H locs → f_X12_strip_281 Y v0 v1 v2 Kn x10 x12 M29 → W p l e rm_X12_strip s m args below meth c H locs 0 0 (MQ below (va_Qi Kn (BG D cy A Y) A) args s 0 0 A) (F0 m 281 ls []) := by
                intro M29 H locs ls hl hW hS hf
                unfold f_X12_strip_281 at hf
                refine lv_aload_n hx hb dX12_strip_281 rfl (lv_at hl 0 rfl) ?_
                obtain ⟨b30, hb30, hf⟩ := hf
                refine gm_getR (C := RX12) (T := TX12) (N := 68) (j := 23) hx hb hts inT_12 hown hK hW k1 (by decide) rfl (by decide) rfl (hts _ kw_1339) rfl dX12_strip_282 hb30 ?_
                refine lv_aload_n hx hb dX12_strip_285 rfl (lv_at hl 0 rfl) ?_
                obtain ⟨b31, hb31, hf⟩ := hf
                refine gm_getR (C := RX12) (T := TX12) (N := 68) (j := 62) hx hb hts inT_12 hown hK hW k1 (by decide) rfl (by decide) rfl (hts _ kw_1378) rfl dX12_strip_286 hb31 ?_
                refine lv_iload_n hx hb dX12_strip_289 rfl (lv_at hl 1 rfl) ?_
                obtain ⟨k32, hf⟩ := hf
                obtain ⟨h33, hf⟩ := hf
                refine gm_iald hx hb hK hW k32 h33 dX12_strip_290 ?_
                refine lv_bipush (v := 57) hx hb dX12_strip_291 (by decide +kernel) ?_
                refine lv_iadd hx hb dX12_strip_293 ?_
                refine lv_iload_n hx hb dX12_strip_294 rfl (lv_at hl 3 rfl) ?_
                refine lv_i2l hx hb dX12_strip_295 rfl ?_
                refine lv_iconst (v := 4) hx hb dX12_strip_296 (by decide +kernel) ?_
                refine gm_cv (va_runS (As := [.ref b30, .int ((mI M29 b31 v1.toNatClampNeg) + 57), .long x10.toInt64, .int 4]) (rest := []) ⟨hx, hb, hml, hown, hts⟩ (m_X12_set l D cy tq _ Y _ _ _ _ _ _) (va_cwS 4 hts (good_S kw_1510 kw_1511 kw_12 kw_1512) rfl rfl rfl (by decide +kernel) ⟨Nat.le_of_ble_eq_true rfl, Nat.le_of_ble_eq_true rfl⟩) (gm_preS hK hW hC hS hA hf) rfl rfl hl.1 rfl (lv_room (Nat.le_of_ble_eq_true rfl)) dX12_strip_297 ⟨Nat.le_of_ble_eq_true rfl, Nat.le_of_ble_eq_true rfl⟩) hW hS hA (fun M34 H locs hW hS hf => ?_)
                refine lv_aload_n hx hb dX12_strip_300 rfl (lv_at hl 0 rfl) ?_
                obtain ⟨b35, hb35, hf⟩ := hf
                refine gm_getR (C := RX12) (T := TX12) (N := 68) (j := 23) hx hb hts inT_12 hown hK hW k1 (by decide) rfl (by decide) rfl (hts _ kw_1339) rfl dX12_strip_301 hb35 ?_
                refine lv_aload_n hx hb dX12_strip_304 rfl (lv_at hl 0 rfl) ?_
                obtain ⟨b36, hb36, hf⟩ := hf
                refine gm_getR (C := RX12) (T := TX12) (N := 68) (j := 62) hx hb hts inT_12 hown hK hW k1 (by decide) rfl (by decide) rfl (hts _ kw_1378) rfl dX12_strip_305 hb36 ?_
                refine lv_iload_n hx hb dX12_strip_308 rfl (lv_at hl 1 rfl) ?_
                obtain ⟨k37, hf⟩ := hf
                obtain ⟨h38, hf⟩ := hf
                refine gm_iald hx hb hK hW k37 h38 dX12_strip_309 ?_
                refine lv_bipush (v := 17) hx hb dX12_strip_310 (by decide +kernel) ?_
                refine lv_iadd hx hb dX12_strip_312 ?_
                refine lv_aload_n hx hb dX12_strip_313 rfl (lv_at hl 0 rfl) ?_
                obtain ⟨b39, hb39, hf⟩ := hf
                refine gm_getR (C := RX12) (T := TX12) (N := 68) (j := 23) hx hb hts inT_12 hown hK hW k1 (by decide) rfl (by decide) rfl (hts _ kw_1339) rfl dX12_strip_314 hb39 ?_
                refine lv_aload_n hx hb dX12_strip_317 rfl (lv_at hl 0 rfl) ?_
                obtain ⟨b40, hb40, hf⟩ := hf
                refine gm_getR (C := RX12) (T := TX12) (N := 68) (j := 62) hx hb hts inT_12 hown hK hW k1 (by decide) rfl (by decide) rfl (hts _ kw_1378) rfl dX12_strip_318 hb40 ?_
                refine lv_iload_n hx hb dX12_strip_321 rfl (lv_at hl 1 rfl) ?_
                obtain ⟨k41, hf⟩ := hf
                obtain ⟨h42, hf⟩ := hf
                refine gm_iald hx hb hK hW k41 h42 dX12_strip_322 ?_
                refine lv_bipush (v := 21) hx hb dX12_strip_323 (by decide +kernel) ?_
                refine lv_iadd hx hb dX12_strip_325 ?_
                refine lv_aload_n hx hb dX12_strip_326 rfl (lv_at hl 0 rfl) ?_
                refine gm_getI (C := RX12) (T := TX12) (N := 68) (j := 25) hx hb hts inT_12 hown hK hW k1 (by decide) rfl (by decide) rfl (hts _ kw_1341) rfl dX12_strip_327 ?_
                refine gm_cl (va_runS (As := [.ref b39, .int ((mI M34 b40 v1.toNatClampNeg) + 21), .int (mI M34 v0 25)]) (rest := [.int ((mI M34 b36 v1.toNatClampNeg) + 17), .ref b35]) ⟨hx, hb, hml, hown, hts⟩ (m_X12_sum l D cy tq _ Y _ _ _ _ _) (va_cwS 3 hts (good_S kw_1505 kw_1506 kw_12 kw_1507) rfl rfl rfl (by decide +kernel) ⟨Nat.le_of_ble_eq_true rfl, Nat.le_of_ble_eq_true rfl⟩) (gm_preS hK hW hC hS hA hf) rfl rfl hl.1 rfl (lv_room (Nat.le_of_ble_eq_true rfl)) dX12_strip_330 ⟨Nat.le_of_ble_eq_true rfl, Nat.le_of_ble_eq_true rfl⟩) hW hS hA (fun r44 M43 H locs hW hS hf => ?_)
                refine lv_iconst (v := 4) hx hb dX12_strip_333 (by decide +kernel) ?_
                refine gm_cv (va_runS (As := [.ref b35, .int ((mI M34 b36 v1.toNatClampNeg) + 17), .long r44, .int 4]) (rest := []) ⟨hx, hb, hml, hown, hts⟩ (m_X12_set l D cy tq _ Y _ _ _ _ _ _) (va_cwS 4 hts (good_S kw_1510 kw_1511 kw_12 kw_1512) rfl rfl rfl (by decide +kernel) ⟨Nat.le_of_ble_eq_true rfl, Nat.le_of_ble_eq_true rfl⟩) (gm_preS hK hW hC hS hA hf) rfl rfl hl.1 rfl (lv_room (Nat.le_of_ble_eq_true rfl)) dX12_strip_334 ⟨Nat.le_of_ble_eq_true rfl, Nat.le_of_ble_eq_true rfl⟩) hW hS hA (fun M45 H locs hW hS hf => ?_)
                refine lv_iload_n hx hb dX12_strip_337 rfl (lv_at hl 3 rfl) ?_
                have j356 : ∀ (M46 : Mm) (H : Heap) (locs : List Loc) (ls : Array Slot), lv_has ls 9 [(2, .int v2), (6, .int x12)] → Wd D cy A Y M46 H → va_S A s.heap H locs → f_X12_strip_356 Y v2 Kn x12 M46 → W p l e rm_X12_strip s m args below meth c H locs 0 0 (MQ below (va_Qi Kn (BG D cy A Y) A) args s 0 0 A) (F0 m 356 ls []) := by
                  intro M46 H locs ls hl hW hS hf
                  unfold f_X12_strip_356 at hf
                  refine lv_iload hx hb dX12_strip_356 (lv_at hl 1 rfl) ?_
                  refine lv_iload_n hx hb dX12_strip_358 rfl (lv_at hl 0 rfl) ?_
                  refine lv_isub hx hb dX12_strip_359 ?_
                  exact gm_iret hx hb hr hlocks hW hS hf dX12_strip_360
                refine lv_if_ne (tgt := 356) hx hb dX12_strip_338 (by decide) (fun c47 => ?_) (fun c47 => ?_)
                · replace hf := hf.1 c47
                  exact j356 _ _ _ _ (lv_sub hl [2, 4] rfl) hW hS hf
                · replace hf := hf.2 c47
                  refine lv_aload_n hx hb dX12_strip_341 rfl (lv_at hl 0 rfl) ?_
                  refine lv_iload_n hx hb dX12_strip_342 rfl (lv_at hl 1 rfl) ?_
                  refine gm_ci (va_runV (As := [.int v1]) (rest := []) ⟨hx, hb, hml, hown, hts⟩ (m_X12_isKnown l D cy tq _ Y _ _ _ _) (cwV 1 hts (good_V kw_1683 kw_1684 kw_1863 kw_12 kw_1685) rfl rfl rfl (by decide +kernel) ⟨Nat.le_of_ble_eq_true rfl, Nat.le_of_ble_eq_true rfl⟩) (gm_preV hK hW hC hS hA k1 (by decide) (q := (RX12, TX12, 68)) rfl rfl hf) rfl rfl hl.1 rfl (lv_room (Nat.le_of_ble_eq_true rfl)) dX12_strip_343 ⟨Nat.le_of_ble_eq_true rfl, Nat.le_of_ble_eq_true rfl⟩) hW hS hA (fun r49 M48 H locs hW hS hf => ?_)
                  refine lv_if_ne (tgt := 356) hx hb dX12_strip_346 (by decide) (fun c50 => ?_) (fun c50 => ?_)
                  · replace hf := hf.1 c50
                    exact j356 _ _ _ _ (lv_sub hl [2, 4] rfl) hW hS hf
                  · replace hf := hf.2 c50
                    refine lv_aload_n hx hb dX12_strip_349 rfl (lv_at hl 0 rfl) ?_
                    obtain ⟨b51, hb51, hf⟩ := hf
                    refine gm_getR (C := RX12) (T := TX12) (N := 68) (j := 63) hx hb hts inT_12 hown hK hW k1 (by decide) rfl (by decide) rfl (hts _ kw_1379) rfl dX12_strip_350 hb51 ?_
                    refine lv_iload_n hx hb dX12_strip_353 rfl (lv_at hl 1 rfl) ?_
                    refine lv_iconst (v := 0) hx hb dX12_strip_354 (by decide +kernel) ?_
                    obtain ⟨k52, hf⟩ := hf
                    obtain ⟨h53, hf⟩ := hf
                    refine gm_iast hx hb hK hW hS k52 h53 dX12_strip_355 (fun H locs M54 eM54 hW hS => ?_)
                    replace hf := hf M54 eM54
                    exact j356 _ _ _ _ (lv_sub hl [2, 4] rfl) hW hS hf
              refine lv_if_le (tgt := 281) hx hb dX12_strip_258 (by decide) (fun c55 => ?_) (fun c55 => ?_)
              · replace hf := hf.1 c55
                exact j281 _ _ _ _ (lv_sub hl [0, 1, 2, 3, 5] rfl) hW hS hf
              · replace hf := hf.2 c55
                refine lv_aload_n hx hb dX12_strip_261 rfl (lv_at hl 0 rfl) ?_
                obtain ⟨b56, hb56, hf⟩ := hf
                refine gm_getR (C := RX12) (T := TX12) (N := 68) (j := 23) hx hb hts inT_12 hown hK hW k1 (by decide) rfl (by decide) rfl (hts _ kw_1339) rfl dX12_strip_262 hb56 ?_
                refine lv_aload_n hx hb dX12_strip_265 rfl (lv_at hl 0 rfl) ?_
                obtain ⟨b57, hb57, hf⟩ := hf
                refine gm_getR (C := RX12) (T := TX12) (N := 68) (j := 62) hx hb hts inT_12 hown hK hW k1 (by decide) rfl (by decide) rfl (hts _ kw_1378) rfl dX12_strip_266 hb57 ?_
                refine lv_iload_n hx hb dX12_strip_269 rfl (lv_at hl 1 rfl) ?_
                obtain ⟨k58, hf⟩ := hf
                obtain ⟨h59, hf⟩ := hf
                refine gm_iald hx hb hK hW k58 h59 dX12_strip_270 ?_
                refine lv_bipush (v := 35) hx hb dX12_strip_271 (by decide +kernel) ?_
                refine lv_iadd hx hb dX12_strip_273 ?_
                refine lv_lload hx hb dX12_strip_274 (lv_at hl 4 rfl) ?_
                refine lv_bipush (v := 8) hx hb dX12_strip_276 (by decide +kernel) ?_
                refine gm_cv (va_runS (As := [.ref b56, .int ((mI M28 b57 v1.toNatClampNeg) + 35), .long x11, .int 8]) (rest := []) ⟨hx, hb, hml, hown, hts⟩ (m_X12_set l D cy tq _ Y _ _ _ _ _ _) (va_cwS 4 hts (good_S kw_1510 kw_1511 kw_12 kw_1512) rfl rfl rfl (by decide +kernel) ⟨Nat.le_of_ble_eq_true rfl, Nat.le_of_ble_eq_true rfl⟩) (gm_preS hK hW hC hS hA hf) rfl rfl hl.1 rfl (lv_room (Nat.le_of_ble_eq_true rfl)) dX12_strip_278 ⟨Nat.le_of_ble_eq_true rfl, Nat.le_of_ble_eq_true rfl⟩) hW hS hA (fun M60 H locs hW hS hf => ?_)
                exact j281 _ _ _ _ (lv_sub hl [0, 1, 2, 3, 5] rfl) hW hS hf
            refine lv_icmp_ge (tgt := 213) hx hb dX12_strip_73 (by decide) (fun c61 => ?_) (fun c61 => ?_)
            · replace hf := hf.1 c61
              exact j213  _ _ _ (lv_sub hl [0, 1, 2, 3, 4, 5] rfl) hW hS hf
            · replace hf := hf.2 c61
              refine lv_aload_n hx hb dX12_strip_76 rfl (lv_at hl 0 rfl) ?_
              obtain ⟨b62, hb62, hf⟩ := hf
              refine gm_getR (C := RX12) (T := TX12) (N := 68) (j := 54) hx hb hts inT_12 hown hK hW k1 (by decide) rfl (by decide) rfl (hts _ kw_1370) rfl dX12_strip_77 hb62 ?_
              refine lv_iload hx hb dX12_strip_80 (lv_at hl 5 rfl) ?_
              obtain ⟨k63, hf⟩ := hf
              obtain ⟨h64, hf⟩ := hf
              refine gm_iald hx hb hK hW k63 h64 dX12_strip_82 ?_
              refine lv_iload_n hx hb dX12_strip_83 rfl (lv_at hl 1 rfl) ?_
              refine lv_icmp_ne (tgt := 213) hx hb dX12_strip_84 (by decide) (fun c65 => ?_) (fun c65 => ?_)
              · replace hf := hf.1 c65
                exact j213  _ _ _ (lv_sub hl [0, 1, 2, 3, 4, 5] rfl) hW hS hf
              · replace hf := hf.2 c65
                refine lv_aload_n hx hb dX12_strip_87 rfl (lv_at hl 0 rfl) ?_
                obtain ⟨b66, hb66, hf⟩ := hf
                refine gm_getR (C := RX12) (T := TX12) (N := 68) (j := 59) hx hb hts inT_12 hown hK hW k1 (by decide) rfl (by decide) rfl (hts _ kw_1375) rfl dX12_strip_88 hb66 ?_
                refine lv_iload hx hb dX12_strip_91 (lv_at hl 5 rfl) ?_
                obtain ⟨k67, hf⟩ := hf
                obtain ⟨h68, hf⟩ := hf
                refine gm_zald hx hb hK hW k67 h68 dX12_strip_93 ?_
                have j207 : ∀ (x69 : Int32) (x70 : Int64) (M71 : Mm) (H : Heap) (locs : List Loc) (ls : Array Slot), lv_has ls 9 [(0, .ref v0), (1, .int v1), (2, .int v2), (3, .int x69), (4, .long x70), (6, .int x12)] → Wd D cy A Y M71 H → va_S A s.heap H locs → f_X12_strip_207 Y x12 (LOOP4 (L_X12_strip_67 Y v0 v1 v2 Kn) n67) x69 x70 M71 → W p l e rm_X12_strip s m args below meth c H locs 0 0 (MQ below (va_Qi Kn (BG D cy A Y) A) args s 0 0 A) (F0 m 207 ls []) := by
                  intro x69 x70 M71 H locs ls hl hW hS hf
                  unfold f_X12_strip_207 at hf
                  obtain ⟨x72, ex72⟩ : ∃ y : Int32, y = x12 + 1 := ⟨_, rfl⟩
                  replace hf := hf x72 ex72
                  refine lv_iinc (v := x72) (lv' := [(6, .int x72), (0, .ref v0), (1, .int v1), (2, .int v2), (3, .int x69), (4, .long x70)]) hx hb dX12_strip_207 hl (k := 5) rfl (by rw [ex72]; rfl) (by decide) rfl (fun ls hl => ?_)
                  refine lv_goto (tgt := 67) hx hb dX12_strip_210 (by decide) ?_
                  exact ih67 _ _ _ _ _ _ _ (lv_sub hl [1, 2, 3, 4, 5, 0] rfl) hW hS hf
                refine lv_if_ne (tgt := 207) hx hb dX12_strip_94 (by decide) (fun c73 => ?_) (fun c73 => ?_)
                · replace hf := hf.1 c73
                  exact j207 _ _ _ _ _ _ (lv_sub hl [0, 1, 2, 3, 4, 5] rfl) hW hS hf
                · replace hf := hf.2 c73
                  refine lv_aload_n hx hb dX12_strip_97 rfl (lv_at hl 0 rfl) ?_
                  refine lv_aload_n hx hb dX12_strip_98 rfl (lv_at hl 0 rfl) ?_
                  obtain ⟨b74, hb74, hf⟩ := hf
                  refine gm_getR (C := RX12) (T := TX12) (N := 68) (j := 23) hx hb hts inT_12 hown hK hW k1 (by decide) rfl (by decide) rfl (hts _ kw_1339) rfl dX12_strip_99 hb74 ?_
                  refine lv_aload_n hx hb dX12_strip_102 rfl (lv_at hl 0 rfl) ?_
                  obtain ⟨b75, hb75, hf⟩ := hf
                  refine gm_getR (C := RX12) (T := TX12) (N := 68) (j := 55) hx hb hts inT_12 hown hK hW k1 (by decide) rfl (by decide) rfl (hts _ kw_1371) rfl dX12_strip_103 hb75 ?_
                  refine lv_iload hx hb dX12_strip_106 (lv_at hl 5 rfl) ?_
                  obtain ⟨k76, hf⟩ := hf
                  obtain ⟨h77, hf⟩ := hf
                  refine gm_iald hx hb hK hW k76 h77 dX12_strip_108 ?_
                  refine lv_aload_n hx hb dX12_strip_109 rfl (lv_at hl 0 rfl) ?_
                  obtain ⟨b78, hb78, hf⟩ := hf
                  refine gm_getR (C := RX12) (T := TX12) (N := 68) (j := 56) hx hb hts inT_12 hown hK hW k1 (by decide) rfl (by decide) rfl (hts _ kw_1372) rfl dX12_strip_110 hb78 ?_
                  refine lv_iload hx hb dX12_strip_113 (lv_at hl 5 rfl) ?_
                  obtain ⟨k79, hf⟩ := hf
                  obtain ⟨h80, hf⟩ := hf
                  refine gm_iald hx hb hK hW k79 h80 dX12_strip_115 ?_
                  refine gm_cv (va_runV (As := [.ref b74, .int (mI M13 b75 x12.toNatClampNeg), .int (mI M13 b78 x12.toNatClampNeg)]) (rest := []) ⟨hx, hb, hml, hown, hts⟩ (m_X12_reads l D cy tq _ Y _ _ _ _ _ _) (cwV 3 hts (good_V kw_1536 kw_1537 kw_1832 kw_12 kw_1538) rfl rfl rfl (by decide +kernel) ⟨Nat.le_of_ble_eq_true rfl, Nat.le_of_ble_eq_true rfl⟩) (gm_preV hK hW hC hS hA k1 (by decide) (q := (RX12, TX12, 68)) rfl rfl hf) rfl rfl hl.1 rfl (lv_room (Nat.le_of_ble_eq_true rfl)) dX12_strip_116 ⟨Nat.le_of_ble_eq_true rfl, Nat.le_of_ble_eq_true rfl⟩) hW hS hA (fun M81 H locs hW hS hf => ?_)
                  refine lv_aload_n hx hb dX12_strip_119 rfl (lv_at hl 0 rfl) ?_
                  refine lv_aload_n hx hb dX12_strip_120 rfl (lv_at hl 0 rfl) ?_
                  refine lv_iload_n hx hb dX12_strip_121 rfl (lv_at hl 1 rfl) ?_
                  refine gm_cl (va_runV (As := [.int v1]) (rest := [.ref v0]) ⟨hx, hb, hml, hown, hts⟩ (m_X12_firstTime l D cy tq _ Y _ _ _ _) (cwV 1 hts (good_V kw_1636 kw_1637 kw_1854 kw_12 kw_1638) rfl rfl rfl (by decide +kernel) ⟨Nat.le_of_ble_eq_true rfl, Nat.le_of_ble_eq_true rfl⟩) (gm_preV hK hW hC hS hA k1 (by decide) (q := (RX12, TX12, 68)) rfl rfl hf) rfl rfl hl.1 rfl (lv_room (Nat.le_of_ble_eq_true rfl)) dX12_strip_122 ⟨Nat.le_of_ble_eq_true rfl, Nat.le_of_ble_eq_true rfl⟩) hW hS hA (fun r83 M82 H locs hW hS hf => ?_)
                  refine gm_ci (va_runV (As := [.long r83]) (rest := []) ⟨hx, hb, hml, hown, hts⟩ (m_X12_readRecord l D cy tq _ Y _ _ _ _) (cwV 1 hts (good_V kw_1539 kw_1540 kw_1833 kw_12 kw_1541) rfl rfl rfl (by decide +kernel) ⟨Nat.le_of_ble_eq_true rfl, Nat.le_of_ble_eq_true rfl⟩) (gm_preV hK hW hC hS hA k1 (by decide) (q := (RX12, TX12, 68)) rfl rfl hf) rfl rfl hl.1 rfl (lv_room (Nat.le_of_ble_eq_true rfl)) dX12_strip_125 ⟨Nat.le_of_ble_eq_true rfl, Nat.le_of_ble_eq_true rfl⟩) hW hS hA (fun r85 M84 H locs hW hS hf => ?_)
                  refine lv_istore (lv' := [(7, .int r85), (0, .ref v0), (1, .int v1), (2, .int v2), (3, .int x10), (4, .long x11), (6, .int x12)]) hx hb dX12_strip_128 hl (by decide) rfl (fun ls hl => ?_)
                  refine lv_aload_n hx hb dX12_strip_130 rfl (lv_at hl 1 rfl) ?_
                  refine gm_getJ (C := RX12) (T := TX12) (N := 68) (j := 47) hx hb hts inT_12 hown hK hW k1 (by decide) rfl (by decide) rfl (hts _ kw_1363) rfl dX12_strip_131 ?_
                  refine lv_lload hx hb dX12_strip_134 (lv_at hl 5 rfl) ?_
                  refine W.lcmp hx hb dX12_strip_136 ?_
                  have j149 : ∀ (y86 : Int64) (H : Heap) (locs : List Loc) (ls : Array Slot), lv_has ls 9 [(0, .ref v0), (1, .int v1), (2, .int v2), (3, .int x10), (6, .int x12)] → Wd D cy A Y M84 H → va_S A s.heap H locs → f_X12_strip_149 Y v0 x10 x12 (LOOP4 (L_X12_strip_67 Y v0 v1 v2 Kn) n67) M84 y86 → W p l e rm_X12_strip s m args below meth c H locs 0 0 (MQ below (va_Qi Kn (BG D cy A Y) A) args s 0 0 A) (F0 m 149 ls [.long y86]) := by
                    intro y86 H locs ls hl hW hS hf
                    unfold f_X12_strip_149 at hf
                    refine lv_lstore (lv' := [(4, .long y86), (0, .ref v0), (1, .int v1), (2, .int v2), (3, .int x10), (6, .int x12)]) hx hb dX12_strip_149 hl (by decide) rfl (fun ls hl => ?_)
                    refine lv_aload_n hx hb dX12_strip_151 rfl (lv_at hl 1 rfl) ?_
                    obtain ⟨b87, hb87, hf⟩ := hf
                    refine gm_getR (C := RX12) (T := TX12) (N := 68) (j := 55) hx hb hts inT_12 hown hK hW k1 (by decide) rfl (by decide) rfl (hts _ kw_1371) rfl dX12_strip_152 hb87 ?_
                    refine lv_iload hx hb dX12_strip_155 (lv_at hl 5 rfl) ?_
                    obtain ⟨k88, hf⟩ := hf
                    obtain ⟨h89, hf⟩ := hf
                    refine gm_iald hx hb hK hW k88 h89 dX12_strip_157 ?_
                    refine lv_topi (fun x90 ex90 => ?_)
                    replace hf := hf x90 ex90
                    refine lv_istore (lv' := [(8, .int x90), (4, .long y86), (0, .ref v0), (1, .int v1), (2, .int v2), (3, .int x10), (6, .int x12)]) hx hb dX12_strip_158 hl (by decide) rfl (fun ls hl => ?_)
                    obtain ⟨n160, hf⟩ := hf
                    have lp160 : ∀ (n160 : Nat) (x91 : Int32) (M92 : Mm) (H : Heap) (locs : List Loc) (ls : Array Slot), lv_has ls 9 [(0, .ref v0), (1, .int v1), (2, .int v2), (3, .int x10), (4, .long y86), (6, .int x12), (8, .int x91)] → Wd D cy A Y M92 H → va_S A s.heap H locs → LOOP2 (L_X12_strip_160 Y v0 x10 x12 (LOOP4 (L_X12_strip_67 Y v0 v1 v2 Kn) n67) y86) n160 x91 M92 → W p l e rm_X12_strip s m args below meth c H locs 0 0 (MQ below (va_Qi Kn (BG D cy A Y) A) args s 0 0 A) (F0 m 160 ls []) := by
                      intro n160
                      induction n160 with
                      | zero => intro x91 M92 H locs ls hl hW hS hf; exact hf.elim
                      | succ n160 ih160 =>
                        intro x91 M92 H locs ls hl hW hS hf
                        replace hf : L_X12_strip_160 Y v0 x10 x12 (LOOP4 (L_X12_strip_67 Y v0 v1 v2 Kn) n67) y86 x91 M92 (LOOP2 (L_X12_strip_160 Y v0 x10 x12 (LOOP4 (L_X12_strip_67 Y v0 v1 v2 Kn) n67) y86) n160) := hf
                        unfold L_X12_strip_160 at hf
                        refine lv_iload hx hb dX12_strip_160 (lv_at hl 6 rfl) ?_
                        refine lv_aload_n hx hb dX12_strip_162 rfl (lv_at hl 0 rfl) ?_
                        obtain ⟨b93, hb93, hf⟩ := hf
                        refine gm_getR (C := RX12) (T := TX12) (N := 68) (j := 56) hx hb hts inT_12 hown hK hW k1 (by decide) rfl (by decide) rfl (hts _ kw_1372) rfl dX12_strip_163 hb93 ?_
                        refine lv_iload hx hb dX12_strip_166 (lv_at hl 5 rfl) ?_
                        obtain ⟨k94, hf⟩ := hf
                        obtain ⟨h95, hf⟩ := hf
                        refine gm_iald hx hb hK hW k94 h95 dX12_strip_168 ?_
                        refine lv_icmp_ge (tgt := 204) hx hb dX12_strip_169 (by decide) (fun c96 => ?_) (fun c96 => ?_)
                        · replace hf := hf.1 c96
                          obtain ⟨x97, ex97⟩ : ∃ y : Int32, y = x10 + 1 := ⟨_, rfl⟩
                          replace hf := hf x97 ex97
                          refine lv_iinc (v := x97) (lv' := [(3, .int x97), (0, .ref v0), (1, .int v1), (2, .int v2), (4, .long y86), (6, .int x12), (8, .int x91)]) hx hb dX12_strip_204 hl (k := 3) rfl (by rw [ex97]; rfl) (by decide) rfl (fun ls hl => ?_)
                          exact j207 _ _ _ _ _ _ (lv_sub hl [1, 2, 3, 0, 4, 5] rfl) hW hS hf
                        · replace hf := hf.2 c96
                          refine lv_aload_n hx hb dX12_strip_172 rfl (lv_at hl 0 rfl) ?_
                          obtain ⟨b98, hb98, hf⟩ := hf
                          refine gm_getR (C := RX12) (T := TX12) (N := 68) (j := 23) hx hb hts inT_12 hown hK hW k1 (by decide) rfl (by decide) rfl (hts _ kw_1339) rfl dX12_strip_173 hb98 ?_
                          refine lv_aload_n hx hb dX12_strip_176 rfl (lv_at hl 0 rfl) ?_
                          refine gm_getI (C := RX12) (T := TX12) (N := 68) (j := 25) hx hb hts inT_12 hown hK hW k1 (by decide) rfl (by decide) rfl (hts _ kw_1341) rfl dX12_strip_177 ?_
                          refine lv_aload_n hx hb dX12_strip_180 rfl (lv_at hl 0 rfl) ?_
                          obtain ⟨b99, hb99, hf⟩ := hf
                          refine gm_getR (C := RX12) (T := TX12) (N := 68) (j := 23) hx hb hts inT_12 hown hK hW k1 (by decide) rfl (by decide) rfl (hts _ kw_1339) rfl dX12_strip_181 hb99 ?_
                          refine lv_iload hx hb dX12_strip_184 (lv_at hl 6 rfl) ?_
                          obtain ⟨k100, hf⟩ := hf
                          obtain ⟨h101, hf⟩ := hf
                          refine gm_iald hx hb hK hW k100 h101 dX12_strip_186 ?_
                          obtain ⟨k102, hf⟩ := hf
                          obtain ⟨h103, hf⟩ := hf
                          refine gm_iast hx hb hK hW hS k102 h103 dX12_strip_187 (fun H locs M104 eM104 hW hS => ?_)
                          replace hf := hf M104 eM104
                          refine lv_aload_n hx hb dX12_strip_188 rfl (lv_at hl 0 rfl) ?_
                          refine lv_dup hx hb dX12_strip_189 rfl ?_
                          refine gm_getI (C := RX12) (T := TX12) (N := 68) (j := 25) hx hb hts inT_12 hown hK hW k1 (by decide) rfl (by decide) rfl (hts _ kw_1341) rfl dX12_strip_190 ?_
                          refine lv_iconst (v := 1) hx hb dX12_strip_193 (by decide +kernel) ?_
                          refine lv_iadd hx hb dX12_strip_194 ?_
                          refine gm_putI (C := RX12) (T := TX12) (N := 68) (j := 25) hx hb hts inT_12 tyX12 tyX12_ok nmX12 hown hK hW hS k1 (by decide) rfl (by decide) rfl (hts _ kw_1341) rfl rfl rfl rfl dX12_strip_195 (fun H locs M105 eM105 hW hS => ?_)
                          replace hf := hf M105 eM105
                          obtain ⟨x106, ex106⟩ : ∃ y : Int32, y = x91 + 1 := ⟨_, rfl⟩
                          replace hf := hf x106 ex106
                          refine lv_iinc (v := x106) (lv' := [(8, .int x106), (0, .ref v0), (1, .int v1), (2, .int v2), (3, .int x10), (4, .long y86), (6, .int x12)]) hx hb dX12_strip_198 hl (k := 6) rfl (by rw [ex106]; rfl) (by decide) rfl (fun ls hl => ?_)
                          refine lv_goto (tgt := 160) hx hb dX12_strip_201 (by decide) ?_
                          exact ih160 _ _ _ _ _ (lv_sub hl [1, 2, 3, 4, 5, 6, 0] rfl) hW hS hf
                    exact lp160 n160 _ _ _ _ _ (lv_sub hl [2, 3, 4, 5, 1, 6, 0] rfl) hW hS hf
                  refine lv_if_le (tgt := 147) hx hb dX12_strip_137 (by decide) (fun c107 => ?_) (fun c107 => ?_)
                  · replace hf := hf.1 (lg_le.mp c107)
                    refine lv_lload hx hb dX12_strip_147 (lv_at hl 5 rfl) ?_
                    exact j149 _ _ _ _ (lv_sub hl [1, 2, 3, 4, 6] rfl) hW hS hf
                  · replace hf := hf.2 (fun z => c107 (lg_le.mpr z))
                    refine lv_aload_n hx hb dX12_strip_140 rfl (lv_at hl 1 rfl) ?_
                    refine gm_getJ (C := RX12) (T := TX12) (N := 68) (j := 47) hx hb hts inT_12 hown hK hW k1 (by decide) rfl (by decide) rfl (hts _ kw_1363) rfl dX12_strip_141 ?_
                    refine lv_goto (tgt := 149) hx hb dX12_strip_144 (by decide) ?_
                    exact j149 _ _ _ _ (lv_sub hl [1, 2, 3, 4, 6] rfl) hW hS hf
        exact lp67 n67 _ _ _ _ _ _ _ (lv_sub hl [3, 4, 5, 2, 1, 0] rfl) hW hS hf
      · replace hf := hf.2 c8
        refine lv_aload_n hx hb dX12_strip_18 rfl (lv_at hl 0 rfl) ?_
        obtain ⟨b108, hb108, hf⟩ := hf
        refine gm_getR (C := RX12) (T := TX12) (N := 68) (j := 23) hx hb hts inT_12 hown hK hW k1 (by decide) rfl (by decide) rfl (hts _ kw_1339) rfl dX12_strip_19 hb108 ?_
        refine lv_aload_n hx hb dX12_strip_22 rfl (lv_at hl 0 rfl) ?_
        refine gm_getI (C := RX12) (T := TX12) (N := 68) (j := 25) hx hb hts inT_12 hown hK hW k1 (by decide) rfl (by decide) rfl (hts _ kw_1341) rfl dX12_strip_23 ?_
        refine lv_iload_n hx hb dX12_strip_26 rfl (lv_at hl 3 rfl) ?_
        refine lv_iadd hx hb dX12_strip_27 ?_
        refine lv_aload_n hx hb dX12_strip_28 rfl (lv_at hl 0 rfl) ?_
        obtain ⟨b109, hb109, hf⟩ := hf
        refine gm_getR (C := RX12) (T := TX12) (N := 68) (j := 23) hx hb hts inT_12 hown hK hW k1 (by decide) rfl (by decide) rfl (hts _ kw_1339) rfl dX12_strip_29 hb109 ?_
        refine lv_aload_n hx hb dX12_strip_32 rfl (lv_at hl 0 rfl) ?_
        obtain ⟨b110, hb110, hf⟩ := hf
        refine gm_getR (C := RX12) (T := TX12) (N := 68) (j := 20) hx hb hts inT_12 hown hK hW k1 (by decide) rfl (by decide) rfl (hts _ kw_1336) rfl dX12_strip_33 hb110 ?_
        refine lv_iload_n hx hb dX12_strip_36 rfl (lv_at hl 1 rfl) ?_
        obtain ⟨k111, hf⟩ := hf
        obtain ⟨h112, hf⟩ := hf
        refine gm_iald hx hb hK hW k111 h112 dX12_strip_37 ?_
        refine lv_iload_n hx hb dX12_strip_38 rfl (lv_at hl 3 rfl) ?_
        refine lv_iadd hx hb dX12_strip_39 ?_
        obtain ⟨k113, hf⟩ := hf
        obtain ⟨h114, hf⟩ := hf
        refine gm_iald hx hb hK hW k113 h114 dX12_strip_40 ?_
        obtain ⟨k115, hf⟩ := hf
        obtain ⟨h116, hf⟩ := hf
        refine gm_iast hx hb hK hW hS k115 h116 dX12_strip_41 (fun H locs M117 eM117 hW hS => ?_)
        replace hf := hf M117 eM117
        obtain ⟨x118, ex118⟩ : ∃ y : Int32, y = x6 + 1 := ⟨_, rfl⟩
        replace hf := hf x118 ex118
        refine lv_iinc (v := x118) (lv' := [(3, .int x118), (0, .ref v0), (1, .int v1), (2, .int v2)]) hx hb dX12_strip_42 hl (k := 3) rfl (by rw [ex118]; rfl) (by decide) rfl (fun ls hl => ?_)
        refine lv_goto (tgt := 12) hx hb dX12_strip_45 (by decide) ?_
        exact ih12 _ _ _ _ _ (lv_sub hl [1, 2, 3, 0] rfl) hW hS hf
  exact lp12 n12 _ _ _ _ _ (lv_sub hl [1, 2, 3, 0] rfl) hW hS hf

abbrev rm_X12_plan : Room := { frames := 4, cells := 0, slots := 0, locals := 124 }
def f_X12_plan_139 (Y : Ly) (x4 : Int32) (again11 : Int32 → Mm → Prop) (M9 : Mm) : Prop :=
  ∀ x10 : Int32, x10 = x4 + 1 → (again11 x10 M9)
def f_X12_plan_119 (Y : Ly) (v0 : Nat) (x4 : Int32) (again11 : Int32 → Mm → Prop) (M16 : Mm) : Prop :=
  ∃ b17 : Nat, mR M16 v0 66 = some b17 ∧ (yK Y b17 = 101 ∧ (vp_in ((mI M16 v0 64) - 1) (yN Y b17) ∧ (∃ b20 : Nat, mR M16 v0 63 = some b20 ∧ (yK Y b20 = 101 ∧ (vp_in x4 (yN Y b20) ∧ (vp_in ((mI M16 v0 64) - 1) (yN Y b17) ∧ (∀ M24 : Mm, M24 = sI M16 b17 (m1 (mI M16 b17) ((mI M16 v0 64) - 1).toNatClampNeg ((mI M16 b17 ((mI M16 v0 64) - 1).toNatClampNeg) + (mI M16 b20 x4.toNatClampNeg))) → (f_X12_plan_139 Y x4 again11 M24))))))))
def f_X12_plan_73 (Y : Ly) (v0 : Nat) (Kn : Int32 → Mm → Prop) (x4 : Int32) (again11 : Int32 → Mm → Prop) (M7 : Mm) : Prop :=
  f_X12_placeOf Y v0 M7 (fun r26 M25 => ((0 ≤ r26 → (f_X12_hold Y v0 r26 M25 (fun M28 => (∃ b29 : Nat, mR M28 v0 65 = some b29 ∧ (yK Y b29 = 101 ∧ (vp_in (mI M28 v0 64) (yN Y b29) ∧ (∀ M32 : Mm, M32 = sI M28 b29 (m1 (mI M28 b29) (mI M28 v0 64).toNatClampNeg r26) → (∃ b33 : Nat, mR M32 v0 66 = some b33 ∧ (yK Y b33 = 101 ∧ (vp_in (mI M32 v0 64) (yN Y b33) ∧ (∀ M36 : Mm, M36 = sI M32 b33 (m1 (mI M32 b33) (mI M32 v0 64).toNatClampNeg 0) → (∀ M37 : Mm, M37 = sI M36 v0 (m1 (mI M36 v0) 64 ((mI M36 v0 64) + 1)) → (f_X12_plan_119 Y v0 x4 again11 M37))))))))))))) ∧ (¬ (0 ≤ r26) → (bz 0 ∧ Kn 0 M25))))
def L_X12_plan_11 (Y : Ly) (v0 : Nat) (v1 : Int32) (Kn : Int32 → Mm → Prop) (x4 : Int32) (M5 : Mm) (again11 : Int32 → Mm → Prop) : Prop :=
  ((mI M5 v0 18) ≤ x4 → (bz 1 ∧ Kn 1 M5)) ∧ (¬ ((mI M5 v0 18) ≤ x4) → (f_X12_isClosed Y v0 x4 v1 M5 (fun r8 M7 => ((r8 = 0 → (f_X12_plan_139 Y x4 again11 M7)) ∧ (¬ (r8 = 0) → (∃ b12 : Nat, mR M7 v0 63 = some b12 ∧ (yK Y b12 = 101 ∧ (vp_in x4 (yN Y b12) ∧ (((mI M7 b12 x4.toNatClampNeg) ≤ 0 → (f_X12_plan_139 Y x4 again11 M7)) ∧ (¬ ((mI M7 b12 x4.toNatClampNeg) ≤ 0) → (((mI M7 v0 64) = 0 → (f_X12_plan_73 Y v0 Kn x4 again11 M7)) ∧ (¬ ((mI M7 v0 64) = 0) → (∃ b39 : Nat, mR M7 v0 66 = some b39 ∧ (yK Y b39 = 101 ∧ (vp_in ((mI M7 v0 64) - 1) (yN Y b39) ∧ (∃ b42 : Nat, mR M7 v0 63 = some b42 ∧ (yK Y b42 = 101 ∧ (vp_in x4 (yN Y b42) ∧ ((((mI M7 b39 ((mI M7 v0 64) - 1).toNatClampNeg) + (mI M7 b42 x4.toNatClampNeg)) ≤ (1024 * (mI M7 v0 2)) → (f_X12_plan_119 Y v0 x4 again11 M7)) ∧ (¬ (((mI M7 b39 ((mI M7 v0 64) - 1).toNatClampNeg) + (mI M7 b42 x4.toNatClampNeg)) ≤ (1024 * (mI M7 v0 2))) → (f_X12_plan_73 Y v0 Kn x4 again11 M7)))))))))))))))))))))
def f_X12_plan (Y : Ly) (v0 : Nat) (v1 : Int32) (M : Mm) (Kn : Int32 → Mm → Prop) : Prop :=
  yK Y v0 = 12 ∧ (f_X12_mark Y v0 M (fun M1 => (∀ M3 : Mm, M3 = sI M1 v0 (m1 (mI M1 v0) 64 0) → (∃ n, LOOP2 (L_X12_plan_11 Y v0 v1 Kn) n 0 M3))))
set_option maxHeartbeats 4000000 in
set_option maxRecDepth 100000 in
theorem m_X12_plan (l : Launch) (D : va_G) (cy : Cy) (tq sz : Nat) (Y : Ly) (v0 : Nat) (v1 : Int32) (M : Mm) (Kn : Int32 → Mm → Prop) : Met l yX12_plan (Cond.code yX12_plan cX12_plan 4 (some .boolean) :: TT) rm_X12_plan (PcG D cy tq [.ref v0, .int v1] sz Y M (f_X12_plan Y v0 v1 M Kn)) (va_Qi Kn (BG D cy (Am Y sz) Y) (Am Y sz)) 0 0 (Am Y sz) := by
  refine Met.ofW (cc := cX12_plan) (maxL := 4) (ret := (some .boolean)) (by decide) rfl ?_
  intro p e s m args below meth c s₁ B hml hv
  obtain ⟨hargs, hsz, hW, hK, hC, hf⟩ := hv
  subst hsz
  have hx := B.exec
  have hb := B.bytes
  have hr := B.returns
  have hts : ∀ w ∈ TT, w.before args s = true := fun w h => atoms_spec (ws := Cond.code yX12_plan cX12_plan 4 (some .boolean) :: TT) B.pre w (List.mem_cons_of_mem _ h)
  have hown : s.vm.findClass RX12 = some m.cls := findClass_of_methodNamed B.named
  have hlocks := B.notSynchronized
  replace hW := Wd_self (sz := s.heap.size) hW
  generalize hAe : Am Y s.heap.size = A at hW hC ⊢
  have hA : ∀ q : Nat, s.heap.size ≤ q → A q := fun q h => by rw [← hAe]; exact Or.inr h
  clear hAe
  have hS : va_S A s.heap s.heap [] := va_S.rf
  obtain ⟨ls, hE, hl⟩ := gm_entry m [.ref v0, .int v1] (n := 4) hargs (Nat.le_of_ble_eq_true rfl)
  rw [hE]
  have hl : lv_has ls 4 [(0, .ref v0), (1, .int v1)] := hl
  show W p l e rm_X12_plan s m args below meth c s.heap [] 0 0 (MQ below (va_Qi Kn (BG D cy A Y) A) args s 0 0 A) (F0 m 0 ls [])
  unfold f_X12_plan at hf
  refine lv_aload_n hx hb dX12_plan_0 rfl (lv_at hl 0 rfl) ?_
  obtain ⟨k2, hf⟩ := hf
  refine gm_cv (va_runV (As := []) (rest := []) ⟨hx, hb, hml, hown, hts⟩ (m_X12_mark l D cy tq _ Y _ _ _) (cwV 0 hts (good_V kw_1599 kw_1600 kw_1847 kw_12 kw_1601) rfl rfl rfl (by decide +kernel) ⟨Nat.le_of_ble_eq_true rfl, Nat.le_of_ble_eq_true rfl⟩) (gm_preV hK hW hC hS hA k2 (by decide) (q := (RX12, TX12, 68)) rfl rfl hf) rfl rfl hl.1 rfl (lv_room (Nat.le_of_ble_eq_true rfl)) dX12_plan_1 ⟨Nat.le_of_ble_eq_true rfl, Nat.le_of_ble_eq_true rfl⟩) hW hS hA (fun M1 H locs hW hS hf => ?_)
  refine lv_aload_n hx hb dX12_plan_4 rfl (lv_at hl 0 rfl) ?_
  refine lv_iconst (v := 0) hx hb dX12_plan_5 (by decide +kernel) ?_
  refine gm_putI (C := RX12) (T := TX12) (N := 68) (j := 64) hx hb hts inT_12 tyX12 tyX12_ok nmX12 hown hK hW hS k2 (by decide) rfl (by decide) rfl (hts _ kw_1380) rfl rfl rfl rfl dX12_plan_6 (fun H locs M3 eM3 hW hS => ?_)
  replace hf := hf M3 eM3
  refine lv_iconst (v := 0) hx hb dX12_plan_9 (by decide +kernel) ?_
  refine lv_istore_n (lv' := [(2, .int 0), (0, .ref v0), (1, .int v1)]) hx hb dX12_plan_10 rfl hl (by decide) rfl (fun ls hl => ?_)
  obtain ⟨n11, hf⟩ := hf
  have lp11 : ∀ (n11 : Nat) (x4 : Int32) (M5 : Mm) (H : Heap) (locs : List Loc) (ls : Array Slot), lv_has ls 4 [(0, .ref v0), (1, .int v1), (2, .int x4)] → Wd D cy A Y M5 H → va_S A s.heap H locs → LOOP2 (L_X12_plan_11 Y v0 v1 Kn) n11 x4 M5 → W p l e rm_X12_plan s m args below meth c H locs 0 0 (MQ below (va_Qi Kn (BG D cy A Y) A) args s 0 0 A) (F0 m 11 ls []) := by
    intro n11
    induction n11 with
    | zero => intro x4 M5 H locs ls hl hW hS hf; exact hf.elim
    | succ n11 ih11 =>
      intro x4 M5 H locs ls hl hW hS hf
      replace hf : L_X12_plan_11 Y v0 v1 Kn x4 M5 (LOOP2 (L_X12_plan_11 Y v0 v1 Kn) n11) := hf
      unfold L_X12_plan_11 at hf
      refine lv_iload_n hx hb dX12_plan_11 rfl (lv_at hl 2 rfl) ?_
      refine lv_aload_n hx hb dX12_plan_12 rfl (lv_at hl 0 rfl) ?_
      refine gm_getI (C := RX12) (T := TX12) (N := 68) (j := 18) hx hb hts inT_12 hown hK hW k2 (by decide) rfl (by decide) rfl (hts _ kw_1334) rfl dX12_plan_13 ?_
      refine lv_icmp_ge (tgt := 145) hx hb dX12_plan_16 (by decide) (fun c6 => ?_) (fun c6 => ?_)
      · replace hf := hf.1 c6
        refine lv_iconst (v := 1) hx hb dX12_plan_145 (by decide +kernel) ?_
        exact gm_zret hx hb hr hlocks hW hS hf.1 hf.2 dX12_plan_146
      · replace hf := hf.2 c6
        refine lv_aload_n hx hb dX12_plan_19 rfl (lv_at hl 0 rfl) ?_
        refine lv_iload_n hx hb dX12_plan_20 rfl (lv_at hl 2 rfl) ?_
        refine lv_iload_n hx hb dX12_plan_21 rfl (lv_at hl 1 rfl) ?_
        refine gm_ci (va_runV (As := [.int x4, .int v1]) (rest := []) ⟨hx, hb, hml, hown, hts⟩ (m_X12_isClosed l D cy tq _ Y _ _ _ _ _) (cwV 2 hts (good_V kw_1674 kw_1675 kw_1860 kw_12 kw_1676) rfl rfl rfl (by decide +kernel) ⟨Nat.le_of_ble_eq_true rfl, Nat.le_of_ble_eq_true rfl⟩) (gm_preV hK hW hC hS hA k2 (by decide) (q := (RX12, TX12, 68)) rfl rfl hf) rfl rfl hl.1 rfl (lv_room (Nat.le_of_ble_eq_true rfl)) dX12_plan_22 ⟨Nat.le_of_ble_eq_true rfl, Nat.le_of_ble_eq_true rfl⟩) hW hS hA (fun r8 M7 H locs hW hS hf => ?_)
        have j139 : ∀ (M9 : Mm) (H : Heap) (locs : List Loc) (ls : Array Slot), lv_has ls 4 [(0, .ref v0), (1, .int v1), (2, .int x4)] → Wd D cy A Y M9 H → va_S A s.heap H locs → f_X12_plan_139 Y x4 (LOOP2 (L_X12_plan_11 Y v0 v1 Kn) n11) M9 → W p l e rm_X12_plan s m args below meth c H locs 0 0 (MQ below (va_Qi Kn (BG D cy A Y) A) args s 0 0 A) (F0 m 139 ls []) := by
          intro M9 H locs ls hl hW hS hf
          unfold f_X12_plan_139 at hf
          obtain ⟨x10, ex10⟩ : ∃ y : Int32, y = x4 + 1 := ⟨_, rfl⟩
          replace hf := hf x10 ex10
          refine lv_iinc (v := x10) (lv' := [(2, .int x10), (0, .ref v0), (1, .int v1)]) hx hb dX12_plan_139 hl (k := 2) rfl (by rw [ex10]; rfl) (by decide) rfl (fun ls hl => ?_)
          refine lv_goto (tgt := 11) hx hb dX12_plan_142 (by decide) ?_
          exact ih11 _ _ _ _ _ (lv_sub hl [1, 2, 0] rfl) hW hS hf
        refine lv_if_eq (tgt := 139) hx hb dX12_plan_25 (by decide) (fun c11 => ?_) (fun c11 => ?_)
        · replace hf := hf.1 c11
          exact j139 _ _ _ _ (lv_sub hl [0, 1, 2] rfl) hW hS hf
        · replace hf := hf.2 c11
          refine lv_aload_n hx hb dX12_plan_28 rfl (lv_at hl 0 rfl) ?_
          obtain ⟨b12, hb12, hf⟩ := hf
          refine gm_getR (C := RX12) (T := TX12) (N := 68) (j := 63) hx hb hts inT_12 hown hK hW k2 (by decide) rfl (by decide) rfl (hts _ kw_1379) rfl dX12_plan_29 hb12 ?_
          refine lv_iload_n hx hb dX12_plan_32 rfl (lv_at hl 2 rfl) ?_
          obtain ⟨k13, hf⟩ := hf
          obtain ⟨h14, hf⟩ := hf
          refine gm_iald hx hb hK hW k13 h14 dX12_plan_33 ?_
          refine lv_if_le (tgt := 139) hx hb dX12_plan_34 (by decide) (fun c15 => ?_) (fun c15 => ?_)
          · replace hf := hf.1 c15
            exact j139 _ _ _ _ (lv_sub hl [0, 1, 2] rfl) hW hS hf
          · replace hf := hf.2 c15
            refine lv_aload_n hx hb dX12_plan_37 rfl (lv_at hl 0 rfl) ?_
            refine gm_getI (C := RX12) (T := TX12) (N := 68) (j := 64) hx hb hts inT_12 hown hK hW k2 (by decide) rfl (by decide) rfl (hts _ kw_1380) rfl dX12_plan_38 ?_
            have j119 : ∀ (M16 : Mm) (H : Heap) (locs : List Loc) (ls : Array Slot), lv_has ls 4 [(0, .ref v0), (1, .int v1), (2, .int x4)] → Wd D cy A Y M16 H → va_S A s.heap H locs → f_X12_plan_119 Y v0 x4 (LOOP2 (L_X12_plan_11 Y v0 v1 Kn) n11) M16 → W p l e rm_X12_plan s m args below meth c H locs 0 0 (MQ below (va_Qi Kn (BG D cy A Y) A) args s 0 0 A) (F0 m 119 ls []) := by
              intro M16 H locs ls hl hW hS hf
              unfold f_X12_plan_119 at hf
              refine lv_aload_n hx hb dX12_plan_119 rfl (lv_at hl 0 rfl) ?_
              obtain ⟨b17, hb17, hf⟩ := hf
              refine gm_getR (C := RX12) (T := TX12) (N := 68) (j := 66) hx hb hts inT_12 hown hK hW k2 (by decide) rfl (by decide) rfl (hts _ kw_1382) rfl dX12_plan_120 hb17 ?_
              refine lv_aload_n hx hb dX12_plan_123 rfl (lv_at hl 0 rfl) ?_
              refine gm_getI (C := RX12) (T := TX12) (N := 68) (j := 64) hx hb hts inT_12 hown hK hW k2 (by decide) rfl (by decide) rfl (hts _ kw_1380) rfl dX12_plan_124 ?_
              refine lv_iconst (v := 1) hx hb dX12_plan_127 (by decide +kernel) ?_
              refine lv_isub hx hb dX12_plan_128 ?_
              refine lv_dup2_11 hx hb dX12_plan_129 rfl rfl ?_
              obtain ⟨k18, hf⟩ := hf
              obtain ⟨h19, hf⟩ := hf
              refine gm_iald hx hb hK hW k18 h19 dX12_plan_130 ?_
              refine lv_aload_n hx hb dX12_plan_131 rfl (lv_at hl 0 rfl) ?_
              obtain ⟨b20, hb20, hf⟩ := hf
              refine gm_getR (C := RX12) (T := TX12) (N := 68) (j := 63) hx hb hts inT_12 hown hK hW k2 (by decide) rfl (by decide) rfl (hts _ kw_1379) rfl dX12_plan_132 hb20 ?_
              refine lv_iload_n hx hb dX12_plan_135 rfl (lv_at hl 2 rfl) ?_
              obtain ⟨k21, hf⟩ := hf
              obtain ⟨h22, hf⟩ := hf
              refine gm_iald hx hb hK hW k21 h22 dX12_plan_136 ?_
              refine lv_iadd hx hb dX12_plan_137 ?_
              obtain ⟨h23, hf⟩ := hf
              refine gm_iast hx hb hK hW hS k18 h23 dX12_plan_138 (fun H locs M24 eM24 hW hS => ?_)
              replace hf := hf M24 eM24
              exact j139 _ _ _ _ (lv_sub hl [0, 1, 2] rfl) hW hS hf
            have j73 : ∀ (H : Heap) (locs : List Loc) (ls : Array Slot), lv_has ls 4 [(0, .ref v0), (1, .int v1), (2, .int x4)] → Wd D cy A Y M7 H → va_S A s.heap H locs → f_X12_plan_73 Y v0 Kn x4 (LOOP2 (L_X12_plan_11 Y v0 v1 Kn) n11) M7  → W p l e rm_X12_plan s m args below meth c H locs 0 0 (MQ below (va_Qi Kn (BG D cy A Y) A) args s 0 0 A) (F0 m 73 ls []) := by
              intro  H locs ls hl hW hS hf
              unfold f_X12_plan_73 at hf
              refine lv_aload_n hx hb dX12_plan_73 rfl (lv_at hl 0 rfl) ?_
              refine gm_ci (va_runV (As := []) (rest := []) ⟨hx, hb, hml, hown, hts⟩ (m_X12_placeOf l D cy tq _ Y _ _ _) (cwV 0 hts (good_V kw_1605 kw_1606 kw_1849 kw_12 kw_1607) rfl rfl rfl (by decide +kernel) ⟨Nat.le_of_ble_eq_true rfl, Nat.le_of_ble_eq_true rfl⟩) (gm_preV hK hW hC hS hA k2 (by decide) (q := (RX12, TX12, 68)) rfl rfl hf) rfl rfl hl.1 rfl (lv_room (Nat.le_of_ble_eq_true rfl)) dX12_plan_74 ⟨Nat.le_of_ble_eq_true rfl, Nat.le_of_ble_eq_true rfl⟩) hW hS hA (fun r26 M25 H locs hW hS hf => ?_)
              refine lv_istore_n (lv' := [(3, .int r26), (0, .ref v0), (1, .int v1), (2, .int x4)]) hx hb dX12_plan_77 rfl hl (by decide) rfl (fun ls hl => ?_)
              refine lv_iload_n hx hb dX12_plan_78 rfl (lv_at hl 0 rfl) ?_
              refine lv_if_ge (tgt := 84) hx hb dX12_plan_79 (by decide) (fun c27 => ?_) (fun c27 => ?_)
              · replace hf := hf.1 c27
                refine lv_aload_n hx hb dX12_plan_84 rfl (lv_at hl 1 rfl) ?_
                refine lv_iload_n hx hb dX12_plan_85 rfl (lv_at hl 0 rfl) ?_
                refine gm_cv (va_runV (As := [.int r26]) (rest := []) ⟨hx, hb, hml, hown, hts⟩ (m_X12_hold l D cy tq _ Y _ _ _ _) (cwV 1 hts (good_V kw_1602 kw_1603 kw_1848 kw_12 kw_1604) rfl rfl rfl (by decide +kernel) ⟨Nat.le_of_ble_eq_true rfl, Nat.le_of_ble_eq_true rfl⟩) (gm_preV hK hW hC hS hA k2 (by decide) (q := (RX12, TX12, 68)) rfl rfl hf) rfl rfl hl.1 rfl (lv_room (Nat.le_of_ble_eq_true rfl)) dX12_plan_86 ⟨Nat.le_of_ble_eq_true rfl, Nat.le_of_ble_eq_true rfl⟩) hW hS hA (fun M28 H locs hW hS hf => ?_)
                refine lv_aload_n hx hb dX12_plan_89 rfl (lv_at hl 1 rfl) ?_
                obtain ⟨b29, hb29, hf⟩ := hf
                refine gm_getR (C := RX12) (T := TX12) (N := 68) (j := 65) hx hb hts inT_12 hown hK hW k2 (by decide) rfl (by decide) rfl (hts _ kw_1381) rfl dX12_plan_90 hb29 ?_
                refine lv_aload_n hx hb dX12_plan_93 rfl (lv_at hl 1 rfl) ?_
                refine gm_getI (C := RX12) (T := TX12) (N := 68) (j := 64) hx hb hts inT_12 hown hK hW k2 (by decide) rfl (by decide) rfl (hts _ kw_1380) rfl dX12_plan_94 ?_
                refine lv_iload_n hx hb dX12_plan_97 rfl (lv_at hl 0 rfl) ?_
                obtain ⟨k30, hf⟩ := hf
                obtain ⟨h31, hf⟩ := hf
                refine gm_iast hx hb hK hW hS k30 h31 dX12_plan_98 (fun H locs M32 eM32 hW hS => ?_)
                replace hf := hf M32 eM32
                refine lv_aload_n hx hb dX12_plan_99 rfl (lv_at hl 1 rfl) ?_
                obtain ⟨b33, hb33, hf⟩ := hf
                refine gm_getR (C := RX12) (T := TX12) (N := 68) (j := 66) hx hb hts inT_12 hown hK hW k2 (by decide) rfl (by decide) rfl (hts _ kw_1382) rfl dX12_plan_100 hb33 ?_
                refine lv_aload_n hx hb dX12_plan_103 rfl (lv_at hl 1 rfl) ?_
                refine gm_getI (C := RX12) (T := TX12) (N := 68) (j := 64) hx hb hts inT_12 hown hK hW k2 (by decide) rfl (by decide) rfl (hts _ kw_1380) rfl dX12_plan_104 ?_
                refine lv_iconst (v := 0) hx hb dX12_plan_107 (by decide +kernel) ?_
                obtain ⟨k34, hf⟩ := hf
                obtain ⟨h35, hf⟩ := hf
                refine gm_iast hx hb hK hW hS k34 h35 dX12_plan_108 (fun H locs M36 eM36 hW hS => ?_)
                replace hf := hf M36 eM36
                refine lv_aload_n hx hb dX12_plan_109 rfl (lv_at hl 1 rfl) ?_
                refine lv_dup hx hb dX12_plan_110 rfl ?_
                refine gm_getI (C := RX12) (T := TX12) (N := 68) (j := 64) hx hb hts inT_12 hown hK hW k2 (by decide) rfl (by decide) rfl (hts _ kw_1380) rfl dX12_plan_111 ?_
                refine lv_iconst (v := 1) hx hb dX12_plan_114 (by decide +kernel) ?_
                refine lv_iadd hx hb dX12_plan_115 ?_
                refine gm_putI (C := RX12) (T := TX12) (N := 68) (j := 64) hx hb hts inT_12 tyX12 tyX12_ok nmX12 hown hK hW hS k2 (by decide) rfl (by decide) rfl (hts _ kw_1380) rfl rfl rfl rfl dX12_plan_116 (fun H locs M37 eM37 hW hS => ?_)
                replace hf := hf M37 eM37
                exact j119 _ _ _ _ (lv_sub hl [1, 2, 3] rfl) hW hS hf
              · replace hf := hf.2 c27
                refine lv_iconst (v := 0) hx hb dX12_plan_82 (by decide +kernel) ?_
                exact gm_zret hx hb hr hlocks hW hS hf.1 hf.2 dX12_plan_83
            refine lv_if_eq (tgt := 73) hx hb dX12_plan_41 (by decide) (fun c38 => ?_) (fun c38 => ?_)
            · replace hf := hf.1 c38
              exact j73  _ _ _ (lv_sub hl [0, 1, 2] rfl) hW hS hf
            · replace hf := hf.2 c38
              refine lv_aload_n hx hb dX12_plan_44 rfl (lv_at hl 0 rfl) ?_
              obtain ⟨b39, hb39, hf⟩ := hf
              refine gm_getR (C := RX12) (T := TX12) (N := 68) (j := 66) hx hb hts inT_12 hown hK hW k2 (by decide) rfl (by decide) rfl (hts _ kw_1382) rfl dX12_plan_45 hb39 ?_
              refine lv_aload_n hx hb dX12_plan_48 rfl (lv_at hl 0 rfl) ?_
              refine gm_getI (C := RX12) (T := TX12) (N := 68) (j := 64) hx hb hts inT_12 hown hK hW k2 (by decide) rfl (by decide) rfl (hts _ kw_1380) rfl dX12_plan_49 ?_
              refine lv_iconst (v := 1) hx hb dX12_plan_52 (by decide +kernel) ?_
              refine lv_isub hx hb dX12_plan_53 ?_
              obtain ⟨k40, hf⟩ := hf
              obtain ⟨h41, hf⟩ := hf
              refine gm_iald hx hb hK hW k40 h41 dX12_plan_54 ?_
              refine lv_aload_n hx hb dX12_plan_55 rfl (lv_at hl 0 rfl) ?_
              obtain ⟨b42, hb42, hf⟩ := hf
              refine gm_getR (C := RX12) (T := TX12) (N := 68) (j := 63) hx hb hts inT_12 hown hK hW k2 (by decide) rfl (by decide) rfl (hts _ kw_1379) rfl dX12_plan_56 hb42 ?_
              refine lv_iload_n hx hb dX12_plan_59 rfl (lv_at hl 2 rfl) ?_
              obtain ⟨k43, hf⟩ := hf
              obtain ⟨h44, hf⟩ := hf
              refine gm_iald hx hb hK hW k43 h44 dX12_plan_60 ?_
              refine lv_iadd hx hb dX12_plan_61 ?_
              refine lv_sipush (v := 1024) hx hb dX12_plan_62 (by decide +kernel) ?_
              refine lv_aload_n hx hb dX12_plan_65 rfl (lv_at hl 0 rfl) ?_
              refine gm_getI (C := RX12) (T := TX12) (N := 68) (j := 2) hx hb hts inT_12 hown hK hW k2 (by decide) rfl (by decide) rfl (hts _ kw_1318) rfl dX12_plan_66 ?_
              refine lv_imul hx hb dX12_plan_69 ?_
              refine lv_icmp_le (tgt := 119) hx hb dX12_plan_70 (by decide) (fun c45 => ?_) (fun c45 => ?_)
              · replace hf := hf.1 c45
                exact j119 _ _ _ _ (lv_sub hl [0, 1, 2] rfl) hW hS hf
              · replace hf := hf.2 c45
                exact j73  _ _ _ (lv_sub hl [0, 1, 2] rfl) hW hS hf
  exact lp11 n11 _ _ _ _ _ (lv_sub hl [1, 2, 0] rfl) hW hS hf

abbrev rm_X12_happen : Room := { frames := 3, cells := 0, slots := 0, locals := 102 }
def L_X12_happen_202 (Y : Ly) (v0 : Nat) (v1 : Int32) (Kn : Mm → Prop) (r2 : Int32) (x10 : Int32) (x18 : Int32) (M19 : Mm) (again202 : Int32 → Mm → Prop) : Prop :=
  ((mI M19 v0 64) ≤ x18 → (∃ b21 : Nat, mR M19 v0 29 = some b21 ∧ (yK Y b21 = 101 ∧ (vp_in ((60 * v1) + (mI M19 v0 64)) (yN Y b21) ∧ (∀ M24 : Mm, M24 = sI M19 b21 (m1 (mI M19 b21) ((60 * v1) + (mI M19 v0 64)).toNatClampNeg r2) → (∃ b25 : Nat, mR M24 v0 30 = some b25 ∧ (yK Y b25 = 101 ∧ (vp_in ((60 * v1) + (mI M24 v0 64)) (yN Y b25) ∧ (∀ M28 : Mm, M28 = sI M24 b25 (m1 (mI M24 b25) ((60 * v1) + (mI M24 v0 64)).toNatClampNeg x10) → (∃ b29 : Nat, mR M28 v0 28 = some b29 ∧ (yK Y b29 = 101 ∧ (vp_in v1 (yN Y b29) ∧ (∀ M32 : Mm, M32 = sI M28 b29 (m1 (mI M28 b29) v1.toNatClampNeg ((mI M28 v0 64) + 1)) → (Kn M32)))))))))))))) ∧ (¬ ((mI M19 v0 64) ≤ x18) → (∃ b33 : Nat, mR M19 v0 29 = some b33 ∧ (∃ b34 : Nat, mR M19 v0 65 = some b34 ∧ (yK Y b34 = 101 ∧ (vp_in x18 (yN Y b34) ∧ (yK Y b33 = 101 ∧ (vp_in ((60 * v1) + x18) (yN Y b33) ∧ (∀ M39 : Mm, M39 = sI M19 b33 (m1 (mI M19 b33) ((60 * v1) + x18).toNatClampNeg (mI M19 b34 x18.toNatClampNeg)) → (∃ b40 : Nat, mR M39 v0 30 = some b40 ∧ (∃ b41 : Nat, mR M39 v0 66 = some b41 ∧ (yK Y b41 = 101 ∧ (vp_in x18 (yN Y b41) ∧ (yK Y b40 = 101 ∧ (vp_in ((60 * v1) + x18) (yN Y b40) ∧ (∀ M46 : Mm, M46 = sI M39 b40 (m1 (mI M39 b40) ((60 * v1) + x18).toNatClampNeg (mI M39 b41 x18.toNatClampNeg)) → (∀ x47 : Int32, x47 = x18 + 1 → (again202 x47 M46)))))))))))))))))
def f_X12_happen_187 (Y : Ly) (x14 : Int32) (again37 : Int32 → Int32 → Int32 → Int32 → Mm → Prop) (x52 : Int32) (x53 : Int32) (x54 : Int32) (M55 : Mm) : Prop :=
  ∀ x56 : Int32, x56 = x14 + 1 → (again37 x52 x53 x54 x56 M55)
def f_X12_happen_122 (Y : Ly) (v0 : Nat) (v1 : Int32) (x11 : Int32) (x14 : Int32) (M15 : Mm) (again37 : Int32 → Int32 → Int32 → Int32 → Mm → Prop) (x65 : Int32) (x66 : Int32) : Prop :=
  ∃ b67 : Nat, mR M15 v0 63 = some b67 ∧ (yK Y b67 = 101 ∧ (vp_in x14 (yN Y b67) ∧ (∀ x70 : Int32, x70 = x66 + (mI M15 b67 x14.toNatClampNeg) → (∃ b71 : Nat, mR M15 v0 19 = some b71 ∧ (yK Y b71 = 101 ∧ (vp_in x11 (yN Y b71) ∧ (∀ M74 : Mm, M74 = sI M15 b71 (m1 (mI M15 b71) x11.toNatClampNeg v1) → (∃ b75 : Nat, mR M74 v0 20 = some b75 ∧ (∃ b76 : Nat, mR M74 v0 62 = some b76 ∧ (yK Y b76 = 101 ∧ (vp_in x14 (yN Y b76) ∧ (yK Y b75 = 101 ∧ (vp_in x11 (yN Y b75) ∧ (∀ M81 : Mm, M81 = sI M74 b75 (m1 (mI M74 b75) x11.toNatClampNeg (mI M74 b76 x14.toNatClampNeg)) → (∃ b82 : Nat, mR M81 v0 21 = some b82 ∧ (∃ b83 : Nat, mR M81 v0 63 = some b83 ∧ (yK Y b83 = 101 ∧ (vp_in x14 (yN Y b83) ∧ (yK Y b82 = 101 ∧ (vp_in x11 (yN Y b82) ∧ (∀ M88 : Mm, M88 = sI M81 b82 (m1 (mI M81 b82) x11.toNatClampNeg (mI M81 b83 x14.toNatClampNeg)) → (∃ b89 : Nat, mR M88 v0 22 = some b89 ∧ (∃ b90 : Nat, mR M88 v0 65 = some b90 ∧ (yK Y b90 = 101 ∧ (vp_in x65 (yN Y b90) ∧ (yK Y b89 = 101 ∧ (vp_in x11 (yN Y b89) ∧ (∀ M95 : Mm, M95 = sI M88 b89 (m1 (mI M88 b89) x11.toNatClampNeg (mI M88 b90 x65.toNatClampNeg)) → (∀ x96 : Int32, x96 = x11 + 1 → (f_X12_happen_187 Y x14 again37 x96 x65 x70 M95))))))))))))))))))))))))))))))
def f_X12_happen_73 (Y : Ly) (v0 : Nat) (v1 : Int32) (x11 : Int32) (x12 : Int32) (x13 : Int32) (x14 : Int32) (M15 : Mm) (again37 : Int32 → Int32 → Int32 → Int32 → Mm → Prop) (y51 : Int32) : Prop :=
  (¬ y51 = 0 → (∃ b58 : Nat, mR M15 v0 63 = some b58 ∧ (yK Y b58 = 101 ∧ (vp_in x14 (yN Y b58) ∧ (((mI M15 b58 x14.toNatClampNeg) ≤ 0 → (f_X12_happen_187 Y x14 again37 x11 x12 x13 M15)) ∧ (¬ ((mI M15 b58 x14.toNatClampNeg) ≤ 0) → (∃ b62 : Nat, mR M15 v0 66 = some b62 ∧ (yK Y b62 = 101 ∧ (vp_in x12 (yN Y b62) ∧ ((¬ x13 = (mI M15 b62 x12.toNatClampNeg) → (f_X12_happen_122 Y v0 v1 x11 x14 M15 again37 x12 x13)) ∧ (x13 = (mI M15 b62 x12.toNatClampNeg) → (∀ x98 : Int32, x98 = x12 + 1 → (f_X12_happen_122 Y v0 v1 x11 x14 M15 again37 x98 0))))))))))))) ∧ (y51 = 0 → (f_X12_copy Y v0 x14 x11 M15 (fun M99 => (∀ x100 : Int32, x100 = x11 + 1 → (f_X12_happen_187 Y x14 again37 x100 x12 x13 M99)))))
def f_X12_happen_72 (Y : Ly) (v0 : Nat) (v1 : Int32) (x11 : Int32) (x12 : Int32) (x13 : Int32) (x14 : Int32) (M15 : Mm) (again37 : Int32 → Int32 → Int32 → Int32 → Mm → Prop) : Prop :=
  f_X12_happen_73 Y v0 v1 x11 x12 x13 x14 M15 again37 0
def L_X12_happen_37 (Y : Ly) (v0 : Nat) (v1 : Int32) (Kn : Mm → Prop) (r2 : Int32) (x10 : Int32) (x11 : Int32) (x12 : Int32) (x13 : Int32) (x14 : Int32) (M15 : Mm) (again37 : Int32 → Int32 → Int32 → Int32 → Mm → Prop) : Prop :=
  ((mI M15 v0 18) ≤ x14 → (∀ M17 : Mm, M17 = sI M15 v0 (m1 (mI M15 v0) 18 x11) → (∃ n, LOOP2 (L_X12_happen_202 Y v0 v1 Kn r2 x10) n 0 M17))) ∧ (¬ ((mI M15 v0 18) ≤ x14) → (∃ b48 : Nat, mR M15 v0 19 = some b48 ∧ (yK Y b48 = 101 ∧ (vp_in x14 (yN Y b48) ∧ ((¬ (mI M15 b48 x14.toNatClampNeg) = v1 → (f_X12_happen_72 Y v0 v1 x11 x12 x13 x14 M15 again37)) ∧ ((mI M15 b48 x14.toNatClampNeg) = v1 → (∃ b102 : Nat, mR M15 v0 22 = some b102 ∧ (yK Y b102 = 101 ∧ (vp_in x14 (yN Y b102) ∧ (((mI M15 b102 x14.toNatClampNeg) = r2 → (f_X12_happen_72 Y v0 v1 x11 x12 x13 x14 M15 again37)) ∧ (¬ ((mI M15 b102 x14.toNatClampNeg) = r2) → (f_X12_happen_73 Y v0 v1 x11 x12 x13 x14 M15 again37 1))))))))))))
def f_X12_happen (Y : Ly) (v0 : Nat) (v1 : Int32) (M : Mm) (Kn : Mm → Prop) : Prop :=
  yK Y v0 = 12 ∧ (f_X12_open Y v0 v1 M (fun r2 M1 => (∃ b4 : Nat, mR M1 v0 30 = some b4 ∧ (∃ b5 : Nat, mR M1 v0 28 = some b5 ∧ (yK Y b5 = 101 ∧ (vp_in v1 (yN Y b5) ∧ (yK Y b4 = 101 ∧ (vp_in (((60 * v1) + (mI M1 b5 v1.toNatClampNeg)) - 1) (yN Y b4) ∧ (∀ x10 : Int32, x10 = mI M1 b4 (((60 * v1) + (mI M1 b5 v1.toNatClampNeg)) - 1).toNatClampNeg → (∃ n, LOOP5 (L_X12_happen_37 Y v0 v1 Kn r2 x10) n 0 0 0 0 M1))))))))))
set_option maxHeartbeats 4000000 in
set_option maxRecDepth 100000 in
theorem m_X12_happen (l : Launch) (D : va_G) (cy : Cy) (tq sz : Nat) (Y : Ly) (v0 : Nat) (v1 : Int32) (M : Mm) (Kn : Mm → Prop) : Met l yX12_happen (Cond.code yX12_happen cX12_happen 9 none :: TT) rm_X12_happen (PcG D cy tq [.ref v0, .int v1] sz Y M (f_X12_happen Y v0 v1 M Kn)) (va_Qv Kn (BG D cy (Am Y sz) Y) (Am Y sz)) 0 0 (Am Y sz) := by
  refine Met.ofW (cc := cX12_happen) (maxL := 9) (ret := none) (by decide) rfl ?_
  intro p e s m args below meth c s₁ B hml hv
  obtain ⟨hargs, hsz, hW, hK, hC, hf⟩ := hv
  subst hsz
  have hx := B.exec
  have hb := B.bytes
  have hr := B.returns
  have hts : ∀ w ∈ TT, w.before args s = true := fun w h => atoms_spec (ws := Cond.code yX12_happen cX12_happen 9 none :: TT) B.pre w (List.mem_cons_of_mem _ h)
  have hown : s.vm.findClass RX12 = some m.cls := findClass_of_methodNamed B.named
  have hlocks := B.notSynchronized
  replace hW := Wd_self (sz := s.heap.size) hW
  generalize hAe : Am Y s.heap.size = A at hW hC ⊢
  have hA : ∀ q : Nat, s.heap.size ≤ q → A q := fun q h => by rw [← hAe]; exact Or.inr h
  clear hAe
  have hS : va_S A s.heap s.heap [] := va_S.rf
  obtain ⟨ls, hE, hl⟩ := gm_entry m [.ref v0, .int v1] (n := 9) hargs (Nat.le_of_ble_eq_true rfl)
  rw [hE]
  have hl : lv_has ls 9 [(0, .ref v0), (1, .int v1)] := hl
  show W p l e rm_X12_happen s m args below meth c s.heap [] 0 0 (MQ below (va_Qv Kn (BG D cy A Y) A) args s 0 0 A) (F0 m 0 ls [])
  unfold f_X12_happen at hf
  refine lv_aload_n hx hb dX12_happen_0 rfl (lv_at hl 0 rfl) ?_
  refine lv_iload_n hx hb dX12_happen_1 rfl (lv_at hl 1 rfl) ?_
  obtain ⟨k3, hf⟩ := hf
  refine gm_ci (va_runV (As := [.int v1]) (rest := []) ⟨hx, hb, hml, hown, hts⟩ (m_X12_open l D cy tq _ Y _ _ _ _) (cwV 1 hts (good_V kw_1677 kw_1678 kw_1861 kw_12 kw_1679) rfl rfl rfl (by decide +kernel) ⟨Nat.le_of_ble_eq_true rfl, Nat.le_of_ble_eq_true rfl⟩) (gm_preV hK hW hC hS hA k3 (by decide) (q := (RX12, TX12, 68)) rfl rfl hf) rfl rfl hl.1 rfl (lv_room (Nat.le_of_ble_eq_true rfl)) dX12_happen_2 ⟨Nat.le_of_ble_eq_true rfl, Nat.le_of_ble_eq_true rfl⟩) hW hS hA (fun r2 M1 H locs hW hS hf => ?_)
  refine lv_istore_n (lv' := [(2, .int r2), (0, .ref v0), (1, .int v1)]) hx hb dX12_happen_5 rfl hl (by decide) rfl (fun ls hl => ?_)
  refine lv_aload_n hx hb dX12_happen_6 rfl (lv_at hl 1 rfl) ?_
  obtain ⟨b4, hb4, hf⟩ := hf
  refine gm_getR (C := RX12) (T := TX12) (N := 68) (j := 30) hx hb hts inT_12 hown hK hW k3 (by decide) rfl (by decide) rfl (hts _ kw_1346) rfl dX12_happen_7 hb4 ?_
  refine lv_bipush (v := 60) hx hb dX12_happen_10 (by decide +kernel) ?_
  refine lv_iload_n hx hb dX12_happen_12 rfl (lv_at hl 2 rfl) ?_
  refine lv_imul hx hb dX12_happen_13 ?_
  refine lv_aload_n hx hb dX12_happen_14 rfl (lv_at hl 1 rfl) ?_
  obtain ⟨b5, hb5, hf⟩ := hf
  refine gm_getR (C := RX12) (T := TX12) (N := 68) (j := 28) hx hb hts inT_12 hown hK hW k3 (by decide) rfl (by decide) rfl (hts _ kw_1344) rfl dX12_happen_15 hb5 ?_
  refine lv_iload_n hx hb dX12_happen_18 rfl (lv_at hl 2 rfl) ?_
  obtain ⟨k6, hf⟩ := hf
  obtain ⟨h7, hf⟩ := hf
  refine gm_iald hx hb hK hW k6 h7 dX12_happen_19 ?_
  refine lv_iadd hx hb dX12_happen_20 ?_
  refine lv_iconst (v := 1) hx hb dX12_happen_21 (by decide +kernel) ?_
  refine lv_isub hx hb dX12_happen_22 ?_
  obtain ⟨k8, hf⟩ := hf
  obtain ⟨h9, hf⟩ := hf
  refine gm_iald hx hb hK hW k8 h9 dX12_happen_23 ?_
  refine lv_topi (fun x10 ex10 => ?_)
  replace hf := hf x10 ex10
  refine lv_istore_n (lv' := [(3, .int x10), (2, .int r2), (0, .ref v0), (1, .int v1)]) hx hb dX12_happen_24 rfl hl (by decide) rfl (fun ls hl => ?_)
  refine lv_iconst (v := 0) hx hb dX12_happen_25 (by decide +kernel) ?_
  refine lv_istore (lv' := [(4, .int 0), (3, .int x10), (2, .int r2), (0, .ref v0), (1, .int v1)]) hx hb dX12_happen_26 hl (by decide) rfl (fun ls hl => ?_)
  refine lv_iconst (v := 0) hx hb dX12_happen_28 (by decide +kernel) ?_
  refine lv_istore (lv' := [(5, .int 0), (4, .int 0), (3, .int x10), (2, .int r2), (0, .ref v0), (1, .int v1)]) hx hb dX12_happen_29 hl (by decide) rfl (fun ls hl => ?_)
  refine lv_iconst (v := 0) hx hb dX12_happen_31 (by decide +kernel) ?_
  refine lv_istore (lv' := [(6, .int 0), (5, .int 0), (4, .int 0), (3, .int x10), (2, .int r2), (0, .ref v0), (1, .int v1)]) hx hb dX12_happen_32 hl (by decide) rfl (fun ls hl => ?_)
  refine lv_iconst (v := 0) hx hb dX12_happen_34 (by decide +kernel) ?_
  refine lv_istore (lv' := [(7, .int 0), (6, .int 0), (5, .int 0), (4, .int 0), (3, .int x10), (2, .int r2), (0, .ref v0), (1, .int v1)]) hx hb dX12_happen_35 hl (by decide) rfl (fun ls hl => ?_)
  obtain ⟨n37, hf⟩ := hf
  have lp37 : ∀ (n37 : Nat) (x11 : Int32) (x12 : Int32) (x13 : Int32) (x14 : Int32) (M15 : Mm) (H : Heap) (locs : List Loc) (ls : Array Slot), lv_has ls 9 [(0, .ref v0), (1, .int v1), (2, .int r2), (3, .int x10), (4, .int x11), (5, .int x12), (6, .int x13), (7, .int x14)] → Wd D cy A Y M15 H → va_S A s.heap H locs → LOOP5 (L_X12_happen_37 Y v0 v1 Kn r2 x10) n37 x11 x12 x13 x14 M15 → W p l e rm_X12_happen s m args below meth c H locs 0 0 (MQ below (va_Qv Kn (BG D cy A Y) A) args s 0 0 A) (F0 m 37 ls []) := by
    intro n37
    induction n37 with
    | zero => intro x11 x12 x13 x14 M15 H locs ls hl hW hS hf; exact hf.elim
    | succ n37 ih37 =>
      intro x11 x12 x13 x14 M15 H locs ls hl hW hS hf
      replace hf : L_X12_happen_37 Y v0 v1 Kn r2 x10 x11 x12 x13 x14 M15 (LOOP5 (L_X12_happen_37 Y v0 v1 Kn r2 x10) n37) := hf
      unfold L_X12_happen_37 at hf
      refine lv_iload hx hb dX12_happen_37 (lv_at hl 7 rfl) ?_
      refine lv_aload_n hx hb dX12_happen_39 rfl (lv_at hl 0 rfl) ?_
      refine gm_getI (C := RX12) (T := TX12) (N := 68) (j := 18) hx hb hts inT_12 hown hK hW k3 (by decide) rfl (by decide) rfl (hts _ kw_1334) rfl dX12_happen_40 ?_
      refine lv_icmp_ge (tgt := 193) hx hb dX12_happen_43 (by decide) (fun c16 => ?_) (fun c16 => ?_)
      · replace hf := hf.1 c16
        refine lv_aload_n hx hb dX12_happen_193 rfl (lv_at hl 0 rfl) ?_
        refine lv_iload hx hb dX12_happen_194 (lv_at hl 4 rfl) ?_
        refine gm_putI (C := RX12) (T := TX12) (N := 68) (j := 18) hx hb hts inT_12 tyX12 tyX12_ok nmX12 hown hK hW hS k3 (by decide) rfl (by decide) rfl (hts _ kw_1334) rfl rfl rfl rfl dX12_happen_196 (fun H locs M17 eM17 hW hS => ?_)
        replace hf := hf M17 eM17
        refine lv_iconst (v := 0) hx hb dX12_happen_199 (by decide +kernel) ?_
        refine lv_istore (lv' := [(7, .int 0), (0, .ref v0), (1, .int v1), (2, .int r2), (3, .int x10), (4, .int x11), (5, .int x12), (6, .int x13)]) hx hb dX12_happen_200 hl (by decide) rfl (fun ls hl => ?_)
        obtain ⟨n202, hf⟩ := hf
        have lp202 : ∀ (n202 : Nat) (x18 : Int32) (M19 : Mm) (H : Heap) (locs : List Loc) (ls : Array Slot), lv_has ls 9 [(0, .ref v0), (1, .int v1), (2, .int r2), (3, .int x10), (7, .int x18)] → Wd D cy A Y M19 H → va_S A s.heap H locs → LOOP2 (L_X12_happen_202 Y v0 v1 Kn r2 x10) n202 x18 M19 → W p l e rm_X12_happen s m args below meth c H locs 0 0 (MQ below (va_Qv Kn (BG D cy A Y) A) args s 0 0 A) (F0 m 202 ls []) := by
          intro n202
          induction n202 with
          | zero => intro x18 M19 H locs ls hl hW hS hf; exact hf.elim
          | succ n202 ih202 =>
            intro x18 M19 H locs ls hl hW hS hf
            replace hf : L_X12_happen_202 Y v0 v1 Kn r2 x10 x18 M19 (LOOP2 (L_X12_happen_202 Y v0 v1 Kn r2 x10) n202) := hf
            unfold L_X12_happen_202 at hf
            refine lv_iload hx hb dX12_happen_202 (lv_at hl 4 rfl) ?_
            refine lv_aload_n hx hb dX12_happen_204 rfl (lv_at hl 0 rfl) ?_
            refine gm_getI (C := RX12) (T := TX12) (N := 68) (j := 64) hx hb hts inT_12 hown hK hW k3 (by decide) rfl (by decide) rfl (hts _ kw_1380) rfl dX12_happen_205 ?_
            refine lv_icmp_ge (tgt := 255) hx hb dX12_happen_208 (by decide) (fun c20 => ?_) (fun c20 => ?_)
            · replace hf := hf.1 c20
              refine lv_aload_n hx hb dX12_happen_255 rfl (lv_at hl 0 rfl) ?_
              obtain ⟨b21, hb21, hf⟩ := hf
              refine gm_getR (C := RX12) (T := TX12) (N := 68) (j := 29) hx hb hts inT_12 hown hK hW k3 (by decide) rfl (by decide) rfl (hts _ kw_1345) rfl dX12_happen_256 hb21 ?_
              refine lv_bipush (v := 60) hx hb dX12_happen_259 (by decide +kernel) ?_
              refine lv_iload_n hx hb dX12_happen_261 rfl (lv_at hl 1 rfl) ?_
              refine lv_imul hx hb dX12_happen_262 ?_
              refine lv_aload_n hx hb dX12_happen_263 rfl (lv_at hl 0 rfl) ?_
              refine gm_getI (C := RX12) (T := TX12) (N := 68) (j := 64) hx hb hts inT_12 hown hK hW k3 (by decide) rfl (by decide) rfl (hts _ kw_1380) rfl dX12_happen_264 ?_
              refine lv_iadd hx hb dX12_happen_267 ?_
              refine lv_iload_n hx hb dX12_happen_268 rfl (lv_at hl 2 rfl) ?_
              obtain ⟨k22, hf⟩ := hf
              obtain ⟨h23, hf⟩ := hf
              refine gm_iast hx hb hK hW hS k22 h23 dX12_happen_269 (fun H locs M24 eM24 hW hS => ?_)
              replace hf := hf M24 eM24
              refine lv_aload_n hx hb dX12_happen_270 rfl (lv_at hl 0 rfl) ?_
              obtain ⟨b25, hb25, hf⟩ := hf
              refine gm_getR (C := RX12) (T := TX12) (N := 68) (j := 30) hx hb hts inT_12 hown hK hW k3 (by decide) rfl (by decide) rfl (hts _ kw_1346) rfl dX12_happen_271 hb25 ?_
              refine lv_bipush (v := 60) hx hb dX12_happen_274 (by decide +kernel) ?_
              refine lv_iload_n hx hb dX12_happen_276 rfl (lv_at hl 1 rfl) ?_
              refine lv_imul hx hb dX12_happen_277 ?_
              refine lv_aload_n hx hb dX12_happen_278 rfl (lv_at hl 0 rfl) ?_
              refine gm_getI (C := RX12) (T := TX12) (N := 68) (j := 64) hx hb hts inT_12 hown hK hW k3 (by decide) rfl (by decide) rfl (hts _ kw_1380) rfl dX12_happen_279 ?_
              refine lv_iadd hx hb dX12_happen_282 ?_
              refine lv_iload_n hx hb dX12_happen_283 rfl (lv_at hl 3 rfl) ?_
              obtain ⟨k26, hf⟩ := hf
              obtain ⟨h27, hf⟩ := hf
              refine gm_iast hx hb hK hW hS k26 h27 dX12_happen_284 (fun H locs M28 eM28 hW hS => ?_)
              replace hf := hf M28 eM28
              refine lv_aload_n hx hb dX12_happen_285 rfl (lv_at hl 0 rfl) ?_
              obtain ⟨b29, hb29, hf⟩ := hf
              refine gm_getR (C := RX12) (T := TX12) (N := 68) (j := 28) hx hb hts inT_12 hown hK hW k3 (by decide) rfl (by decide) rfl (hts _ kw_1344) rfl dX12_happen_286 hb29 ?_
              refine lv_iload_n hx hb dX12_happen_289 rfl (lv_at hl 1 rfl) ?_
              refine lv_aload_n hx hb dX12_happen_290 rfl (lv_at hl 0 rfl) ?_
              refine gm_getI (C := RX12) (T := TX12) (N := 68) (j := 64) hx hb hts inT_12 hown hK hW k3 (by decide) rfl (by decide) rfl (hts _ kw_1380) rfl dX12_happen_291 ?_
              refine lv_iconst (v := 1) hx hb dX12_happen_294 (by decide +kernel) ?_
              refine lv_iadd hx hb dX12_happen_295 ?_
              obtain ⟨k30, hf⟩ := hf
              obtain ⟨h31, hf⟩ := hf
              refine gm_iast hx hb hK hW hS k30 h31 dX12_happen_296 (fun H locs M32 eM32 hW hS => ?_)
              replace hf := hf M32 eM32
              exact gm_vret hx hb hr hlocks hW hS hf dX12_happen_297
            · replace hf := hf.2 c20
              refine lv_aload_n hx hb dX12_happen_211 rfl (lv_at hl 0 rfl) ?_
              obtain ⟨b33, hb33, hf⟩ := hf
              refine gm_getR (C := RX12) (T := TX12) (N := 68) (j := 29) hx hb hts inT_12 hown hK hW k3 (by decide) rfl (by decide) rfl (hts _ kw_1345) rfl dX12_happen_212 hb33 ?_
              refine lv_bipush (v := 60) hx hb dX12_happen_215 (by decide +kernel) ?_
              refine lv_iload_n hx hb dX12_happen_217 rfl (lv_at hl 1 rfl) ?_
              refine lv_imul hx hb dX12_happen_218 ?_
              refine lv_iload hx hb dX12_happen_219 (lv_at hl 4 rfl) ?_
              refine lv_iadd hx hb dX12_happen_221 ?_
              refine lv_aload_n hx hb dX12_happen_222 rfl (lv_at hl 0 rfl) ?_
              obtain ⟨b34, hb34, hf⟩ := hf
              refine gm_getR (C := RX12) (T := TX12) (N := 68) (j := 65) hx hb hts inT_12 hown hK hW k3 (by decide) rfl (by decide) rfl (hts _ kw_1381) rfl dX12_happen_223 hb34 ?_
              refine lv_iload hx hb dX12_happen_226 (lv_at hl 4 rfl) ?_
              obtain ⟨k35, hf⟩ := hf
              obtain ⟨h36, hf⟩ := hf
              refine gm_iald hx hb hK hW k35 h36 dX12_happen_228 ?_
              obtain ⟨k37, hf⟩ := hf
              obtain ⟨h38, hf⟩ := hf
              refine gm_iast hx hb hK hW hS k37 h38 dX12_happen_229 (fun H locs M39 eM39 hW hS => ?_)
              replace hf := hf M39 eM39
              refine lv_aload_n hx hb dX12_happen_230 rfl (lv_at hl 0 rfl) ?_
              obtain ⟨b40, hb40, hf⟩ := hf
              refine gm_getR (C := RX12) (T := TX12) (N := 68) (j := 30) hx hb hts inT_12 hown hK hW k3 (by decide) rfl (by decide) rfl (hts _ kw_1346) rfl dX12_happen_231 hb40 ?_
              refine lv_bipush (v := 60) hx hb dX12_happen_234 (by decide +kernel) ?_
              refine lv_iload_n hx hb dX12_happen_236 rfl (lv_at hl 1 rfl) ?_
              refine lv_imul hx hb dX12_happen_237 ?_
              refine lv_iload hx hb dX12_happen_238 (lv_at hl 4 rfl) ?_
              refine lv_iadd hx hb dX12_happen_240 ?_
              refine lv_aload_n hx hb dX12_happen_241 rfl (lv_at hl 0 rfl) ?_
              obtain ⟨b41, hb41, hf⟩ := hf
              refine gm_getR (C := RX12) (T := TX12) (N := 68) (j := 66) hx hb hts inT_12 hown hK hW k3 (by decide) rfl (by decide) rfl (hts _ kw_1382) rfl dX12_happen_242 hb41 ?_
              refine lv_iload hx hb dX12_happen_245 (lv_at hl 4 rfl) ?_
              obtain ⟨k42, hf⟩ := hf
              obtain ⟨h43, hf⟩ := hf
              refine gm_iald hx hb hK hW k42 h43 dX12_happen_247 ?_
              obtain ⟨k44, hf⟩ := hf
              obtain ⟨h45, hf⟩ := hf
              refine gm_iast hx hb hK hW hS k44 h45 dX12_happen_248 (fun H locs M46 eM46 hW hS => ?_)
              replace hf := hf M46 eM46
              obtain ⟨x47, ex47⟩ : ∃ y : Int32, y = x18 + 1 := ⟨_, rfl⟩
              replace hf := hf x47 ex47
              refine lv_iinc (v := x47) (lv' := [(7, .int x47), (0, .ref v0), (1, .int v1), (2, .int r2), (3, .int x10)]) hx hb dX12_happen_249 hl (k := 4) rfl (by rw [ex47]; rfl) (by decide) rfl (fun ls hl => ?_)
              refine lv_goto (tgt := 202) hx hb dX12_happen_252 (by decide) ?_
              exact ih202 _ _ _ _ _ (lv_sub hl [1, 2, 3, 4, 0] rfl) hW hS hf
        exact lp202 n202 _ _ _ _ _ (lv_sub hl [1, 2, 3, 4, 0] rfl) hW hS hf
      · replace hf := hf.2 c16
        refine lv_aload_n hx hb dX12_happen_46 rfl (lv_at hl 0 rfl) ?_
        obtain ⟨b48, hb48, hf⟩ := hf
        refine gm_getR (C := RX12) (T := TX12) (N := 68) (j := 19) hx hb hts inT_12 hown hK hW k3 (by decide) rfl (by decide) rfl (hts _ kw_1335) rfl dX12_happen_47 hb48 ?_
        refine lv_iload hx hb dX12_happen_50 (lv_at hl 7 rfl) ?_
        obtain ⟨k49, hf⟩ := hf
        obtain ⟨h50, hf⟩ := hf
        refine gm_iald hx hb hK hW k49 h50 dX12_happen_52 ?_
        refine lv_iload_n hx hb dX12_happen_53 rfl (lv_at hl 1 rfl) ?_
        have j73 : ∀ (y51 : Int32) (H : Heap) (locs : List Loc) (ls : Array Slot), lv_has ls 9 [(0, .ref v0), (1, .int v1), (2, .int r2), (3, .int x10), (4, .int x11), (5, .int x12), (6, .int x13), (7, .int x14)] → Wd D cy A Y M15 H → va_S A s.heap H locs → f_X12_happen_73 Y v0 v1 x11 x12 x13 x14 M15 (LOOP5 (L_X12_happen_37 Y v0 v1 Kn r2 x10) n37) y51 → W p l e rm_X12_happen s m args below meth c H locs 0 0 (MQ below (va_Qv Kn (BG D cy A Y) A) args s 0 0 A) (F0 m 73 ls [.int y51]) := by
          intro y51 H locs ls hl hW hS hf
          unfold f_X12_happen_73 at hf
          refine lv_istore (lv' := [(8, .int y51), (0, .ref v0), (1, .int v1), (2, .int r2), (3, .int x10), (4, .int x11), (5, .int x12), (6, .int x13), (7, .int x14)]) hx hb dX12_happen_73 hl (by decide) rfl (fun ls hl => ?_)
          refine lv_iload hx hb dX12_happen_75 (lv_at hl 0 rfl) ?_
          have j187 : ∀ (x52 : Int32) (x53 : Int32) (x54 : Int32) (M55 : Mm) (H : Heap) (locs : List Loc) (ls : Array Slot), lv_has ls 9 [(0, .ref v0), (1, .int v1), (2, .int r2), (3, .int x10), (4, .int x52), (5, .int x53), (6, .int x54), (7, .int x14)] → Wd D cy A Y M55 H → va_S A s.heap H locs → f_X12_happen_187 Y x14 (LOOP5 (L_X12_happen_37 Y v0 v1 Kn r2 x10) n37) x52 x53 x54 M55 → W p l e rm_X12_happen s m args below meth c H locs 0 0 (MQ below (va_Qv Kn (BG D cy A Y) A) args s 0 0 A) (F0 m 187 ls []) := by
            intro x52 x53 x54 M55 H locs ls hl hW hS hf
            unfold f_X12_happen_187 at hf
            obtain ⟨x56, ex56⟩ : ∃ y : Int32, y = x14 + 1 := ⟨_, rfl⟩
            replace hf := hf x56 ex56
            refine lv_iinc (v := x56) (lv' := [(7, .int x56), (0, .ref v0), (1, .int v1), (2, .int r2), (3, .int x10), (4, .int x52), (5, .int x53), (6, .int x54)]) hx hb dX12_happen_187 hl (k := 7) rfl (by rw [ex56]; rfl) (by decide) rfl (fun ls hl => ?_)
            refine lv_goto (tgt := 37) hx hb dX12_happen_190 (by decide) ?_
            exact ih37 _ _ _ _ _ _ _ _ (lv_sub hl [1, 2, 3, 4, 5, 6, 7, 0] rfl) hW hS hf
          refine lv_if_ne (tgt := 94) hx hb dX12_happen_77 (by decide) (fun c57 => ?_) (fun c57 => ?_)
          · replace hf := hf.1 c57
            refine lv_aload_n hx hb dX12_happen_94 rfl (lv_at hl 1 rfl) ?_
            obtain ⟨b58, hb58, hf⟩ := hf
            refine gm_getR (C := RX12) (T := TX12) (N := 68) (j := 63) hx hb hts inT_12 hown hK hW k3 (by decide) rfl (by decide) rfl (hts _ kw_1379) rfl dX12_happen_95 hb58 ?_
            refine lv_iload hx hb dX12_happen_98 (lv_at hl 8 rfl) ?_
            obtain ⟨k59, hf⟩ := hf
            obtain ⟨h60, hf⟩ := hf
            refine gm_iald hx hb hK hW k59 h60 dX12_happen_100 ?_
            refine lv_if_le (tgt := 187) hx hb dX12_happen_101 (by decide) (fun c61 => ?_) (fun c61 => ?_)
            · replace hf := hf.1 c61
              exact j187 _ _ _ _ _ _ _ (lv_sub hl [1, 2, 3, 4, 5, 6, 7, 8] rfl) hW hS hf
            · replace hf := hf.2 c61
              refine lv_iload hx hb dX12_happen_104 (lv_at hl 7 rfl) ?_
              refine lv_aload_n hx hb dX12_happen_106 rfl (lv_at hl 1 rfl) ?_
              obtain ⟨b62, hb62, hf⟩ := hf
              refine gm_getR (C := RX12) (T := TX12) (N := 68) (j := 66) hx hb hts inT_12 hown hK hW k3 (by decide) rfl (by decide) rfl (hts _ kw_1382) rfl dX12_happen_107 hb62 ?_
              refine lv_iload hx hb dX12_happen_110 (lv_at hl 6 rfl) ?_
              obtain ⟨k63, hf⟩ := hf
              obtain ⟨h64, hf⟩ := hf
              refine gm_iald hx hb hK hW k63 h64 dX12_happen_112 ?_
              have j122 : ∀ (x65 : Int32) (x66 : Int32) (H : Heap) (locs : List Loc) (ls : Array Slot), lv_has ls 9 [(0, .ref v0), (1, .int v1), (2, .int r2), (3, .int x10), (4, .int x11), (5, .int x65), (6, .int x66), (7, .int x14)] → Wd D cy A Y M15 H → va_S A s.heap H locs → f_X12_happen_122 Y v0 v1 x11 x14 M15 (LOOP5 (L_X12_happen_37 Y v0 v1 Kn r2 x10) n37) x65 x66 → W p l e rm_X12_happen s m args below meth c H locs 0 0 (MQ below (va_Qv Kn (BG D cy A Y) A) args s 0 0 A) (F0 m 122 ls []) := by
                intro x65 x66 H locs ls hl hW hS hf
                unfold f_X12_happen_122 at hf
                refine lv_iload hx hb dX12_happen_122 (lv_at hl 6 rfl) ?_
                refine lv_aload_n hx hb dX12_happen_124 rfl (lv_at hl 0 rfl) ?_
                obtain ⟨b67, hb67, hf⟩ := hf
                refine gm_getR (C := RX12) (T := TX12) (N := 68) (j := 63) hx hb hts inT_12 hown hK hW k3 (by decide) rfl (by decide) rfl (hts _ kw_1379) rfl dX12_happen_125 hb67 ?_
                refine lv_iload hx hb dX12_happen_128 (lv_at hl 7 rfl) ?_
                obtain ⟨k68, hf⟩ := hf
                obtain ⟨h69, hf⟩ := hf
                refine gm_iald hx hb hK hW k68 h69 dX12_happen_130 ?_
                refine lv_iadd hx hb dX12_happen_131 ?_
                refine lv_topi (fun x70 ex70 => ?_)
                replace hf := hf x70 ex70
                refine lv_istore (lv' := [(6, .int x70), (0, .ref v0), (1, .int v1), (2, .int r2), (3, .int x10), (4, .int x11), (5, .int x65), (7, .int x14)]) hx hb dX12_happen_132 hl (by decide) rfl (fun ls hl => ?_)
                refine lv_aload_n hx hb dX12_happen_134 rfl (lv_at hl 1 rfl) ?_
                obtain ⟨b71, hb71, hf⟩ := hf
                refine gm_getR (C := RX12) (T := TX12) (N := 68) (j := 19) hx hb hts inT_12 hown hK hW k3 (by decide) rfl (by decide) rfl (hts _ kw_1335) rfl dX12_happen_135 hb71 ?_
                refine lv_iload hx hb dX12_happen_138 (lv_at hl 5 rfl) ?_
                refine lv_iload_n hx hb dX12_happen_140 rfl (lv_at hl 2 rfl) ?_
                obtain ⟨k72, hf⟩ := hf
                obtain ⟨h73, hf⟩ := hf
                refine gm_iast hx hb hK hW hS k72 h73 dX12_happen_141 (fun H locs M74 eM74 hW hS => ?_)
                replace hf := hf M74 eM74
                refine lv_aload_n hx hb dX12_happen_142 rfl (lv_at hl 1 rfl) ?_
                obtain ⟨b75, hb75, hf⟩ := hf
                refine gm_getR (C := RX12) (T := TX12) (N := 68) (j := 20) hx hb hts inT_12 hown hK hW k3 (by decide) rfl (by decide) rfl (hts _ kw_1336) rfl dX12_happen_143 hb75 ?_
                refine lv_iload hx hb dX12_happen_146 (lv_at hl 5 rfl) ?_
                refine lv_aload_n hx hb dX12_happen_148 rfl (lv_at hl 1 rfl) ?_
                obtain ⟨b76, hb76, hf⟩ := hf
                refine gm_getR (C := RX12) (T := TX12) (N := 68) (j := 62) hx hb hts inT_12 hown hK hW k3 (by decide) rfl (by decide) rfl (hts _ kw_1378) rfl dX12_happen_149 hb76 ?_
                refine lv_iload hx hb dX12_happen_152 (lv_at hl 7 rfl) ?_
                obtain ⟨k77, hf⟩ := hf
                obtain ⟨h78, hf⟩ := hf
                refine gm_iald hx hb hK hW k77 h78 dX12_happen_154 ?_
                obtain ⟨k79, hf⟩ := hf
                obtain ⟨h80, hf⟩ := hf
                refine gm_iast hx hb hK hW hS k79 h80 dX12_happen_155 (fun H locs M81 eM81 hW hS => ?_)
                replace hf := hf M81 eM81
                refine lv_aload_n hx hb dX12_happen_156 rfl (lv_at hl 1 rfl) ?_
                obtain ⟨b82, hb82, hf⟩ := hf
                refine gm_getR (C := RX12) (T := TX12) (N := 68) (j := 21) hx hb hts inT_12 hown hK hW k3 (by decide) rfl (by decide) rfl (hts _ kw_1337) rfl dX12_happen_157 hb82 ?_
                refine lv_iload hx hb dX12_happen_160 (lv_at hl 5 rfl) ?_
                refine lv_aload_n hx hb dX12_happen_162 rfl (lv_at hl 1 rfl) ?_
                obtain ⟨b83, hb83, hf⟩ := hf
                refine gm_getR (C := RX12) (T := TX12) (N := 68) (j := 63) hx hb hts inT_12 hown hK hW k3 (by decide) rfl (by decide) rfl (hts _ kw_1379) rfl dX12_happen_163 hb83 ?_
                refine lv_iload hx hb dX12_happen_166 (lv_at hl 7 rfl) ?_
                obtain ⟨k84, hf⟩ := hf
                obtain ⟨h85, hf⟩ := hf
                refine gm_iald hx hb hK hW k84 h85 dX12_happen_168 ?_
                obtain ⟨k86, hf⟩ := hf
                obtain ⟨h87, hf⟩ := hf
                refine gm_iast hx hb hK hW hS k86 h87 dX12_happen_169 (fun H locs M88 eM88 hW hS => ?_)
                replace hf := hf M88 eM88
                refine lv_aload_n hx hb dX12_happen_170 rfl (lv_at hl 1 rfl) ?_
                obtain ⟨b89, hb89, hf⟩ := hf
                refine gm_getR (C := RX12) (T := TX12) (N := 68) (j := 22) hx hb hts inT_12 hown hK hW k3 (by decide) rfl (by decide) rfl (hts _ kw_1338) rfl dX12_happen_171 hb89 ?_
                refine lv_iload hx hb dX12_happen_174 (lv_at hl 5 rfl) ?_
                refine lv_aload_n hx hb dX12_happen_176 rfl (lv_at hl 1 rfl) ?_
                obtain ⟨b90, hb90, hf⟩ := hf
                refine gm_getR (C := RX12) (T := TX12) (N := 68) (j := 65) hx hb hts inT_12 hown hK hW k3 (by decide) rfl (by decide) rfl (hts _ kw_1381) rfl dX12_happen_177 hb90 ?_
                refine lv_iload hx hb dX12_happen_180 (lv_at hl 6 rfl) ?_
                obtain ⟨k91, hf⟩ := hf
                obtain ⟨h92, hf⟩ := hf
                refine gm_iald hx hb hK hW k91 h92 dX12_happen_182 ?_
                obtain ⟨k93, hf⟩ := hf
                obtain ⟨h94, hf⟩ := hf
                refine gm_iast hx hb hK hW hS k93 h94 dX12_happen_183 (fun H locs M95 eM95 hW hS => ?_)
                replace hf := hf M95 eM95
                obtain ⟨x96, ex96⟩ : ∃ y : Int32, y = x11 + 1 := ⟨_, rfl⟩
                replace hf := hf x96 ex96
                refine lv_iinc (v := x96) (lv' := [(4, .int x96), (6, .int x70), (0, .ref v0), (1, .int v1), (2, .int r2), (3, .int x10), (5, .int x65), (7, .int x14)]) hx hb dX12_happen_184 hl (k := 5) rfl (by rw [ex96]; rfl) (by decide) rfl (fun ls hl => ?_)
                exact j187 _ _ _ _ _ _ _ (lv_sub hl [2, 3, 4, 5, 0, 6, 1, 7] rfl) hW hS hf
              refine lv_icmp_ne (tgt := 122) hx hb dX12_happen_113 (by decide) (fun c97 => ?_) (fun c97 => ?_)
              · replace hf := hf.1 c97
                exact j122 _ _ _ _ _ (lv_sub hl [1, 2, 3, 4, 5, 6, 7, 8] rfl) hW hS hf
              · replace hf := hf.2 c97
                obtain ⟨x98, ex98⟩ : ∃ y : Int32, y = x12 + 1 := ⟨_, rfl⟩
                replace hf := hf x98 ex98
                refine lv_iinc (v := x98) (lv' := [(5, .int x98), (8, .int y51), (0, .ref v0), (1, .int v1), (2, .int r2), (3, .int x10), (4, .int x11), (6, .int x13), (7, .int x14)]) hx hb dX12_happen_116 hl (k := 6) rfl (by rw [ex98]; rfl) (by decide) rfl (fun ls hl => ?_)
                refine lv_iconst (v := 0) hx hb dX12_happen_119 (by decide +kernel) ?_
                refine lv_istore (lv' := [(6, .int 0), (5, .int x98), (8, .int y51), (0, .ref v0), (1, .int v1), (2, .int r2), (3, .int x10), (4, .int x11), (7, .int x14)]) hx hb dX12_happen_120 hl (by decide) rfl (fun ls hl => ?_)
                exact j122 _ _ _ _ _ (lv_sub hl [3, 4, 5, 6, 7, 1, 0, 8] rfl) hW hS hf
          · replace hf := hf.2 c57
            refine lv_aload_n hx hb dX12_happen_80 rfl (lv_at hl 1 rfl) ?_
            refine lv_iload hx hb dX12_happen_81 (lv_at hl 8 rfl) ?_
            refine lv_iload hx hb dX12_happen_83 (lv_at hl 5 rfl) ?_
            refine gm_cv (va_runV (As := [.int x14, .int x11]) (rest := []) ⟨hx, hb, hml, hown, hts⟩ (m_X12_copy l D cy tq _ Y _ _ _ _ _) (cwV 2 hts (good_V kw_1658 kw_1659 kw_1856 kw_12 kw_1660) rfl rfl rfl (by decide +kernel) ⟨Nat.le_of_ble_eq_true rfl, Nat.le_of_ble_eq_true rfl⟩) (gm_preV hK hW hC hS hA k3 (by decide) (q := (RX12, TX12, 68)) rfl rfl hf) rfl rfl hl.1 rfl (lv_room (Nat.le_of_ble_eq_true rfl)) dX12_happen_85 ⟨Nat.le_of_ble_eq_true rfl, Nat.le_of_ble_eq_true rfl⟩) hW hS hA (fun M99 H locs hW hS hf => ?_)
            obtain ⟨x100, ex100⟩ : ∃ y : Int32, y = x11 + 1 := ⟨_, rfl⟩
            replace hf := hf x100 ex100
            refine lv_iinc (v := x100) (lv' := [(4, .int x100), (8, .int y51), (0, .ref v0), (1, .int v1), (2, .int r2), (3, .int x10), (5, .int x12), (6, .int x13), (7, .int x14)]) hx hb dX12_happen_88 hl (k := 5) rfl (by rw [ex100]; rfl) (by decide) rfl (fun ls hl => ?_)
            refine lv_goto (tgt := 187) hx hb dX12_happen_91 (by decide) ?_
            exact j187 _ _ _ _ _ _ _ (lv_sub hl [2, 3, 4, 5, 0, 6, 7, 8] rfl) hW hS hf
        have j72 : ∀ (H : Heap) (locs : List Loc) (ls : Array Slot), lv_has ls 9 [(0, .ref v0), (1, .int v1), (2, .int r2), (3, .int x10), (4, .int x11), (5, .int x12), (6, .int x13), (7, .int x14)] → Wd D cy A Y M15 H → va_S A s.heap H locs → f_X12_happen_72 Y v0 v1 x11 x12 x13 x14 M15 (LOOP5 (L_X12_happen_37 Y v0 v1 Kn r2 x10) n37)  → W p l e rm_X12_happen s m args below meth c H locs 0 0 (MQ below (va_Qv Kn (BG D cy A Y) A) args s 0 0 A) (F0 m 72 ls []) := by
          intro  H locs ls hl hW hS hf
          unfold f_X12_happen_72 at hf
          refine lv_iconst (v := 0) hx hb dX12_happen_72 (by decide +kernel) ?_
          exact j73 _ _ _ _ (lv_sub hl [0, 1, 2, 3, 4, 5, 6, 7] rfl) hW hS hf
        refine lv_icmp_ne (tgt := 72) hx hb dX12_happen_54 (by decide) (fun c101 => ?_) (fun c101 => ?_)
        · replace hf := hf.1 c101
          exact j72  _ _ _ (lv_sub hl [0, 1, 2, 3, 4, 5, 6, 7] rfl) hW hS hf
        · replace hf := hf.2 c101
          refine lv_aload_n hx hb dX12_happen_57 rfl (lv_at hl 0 rfl) ?_
          obtain ⟨b102, hb102, hf⟩ := hf
          refine gm_getR (C := RX12) (T := TX12) (N := 68) (j := 22) hx hb hts inT_12 hown hK hW k3 (by decide) rfl (by decide) rfl (hts _ kw_1338) rfl dX12_happen_58 hb102 ?_
          refine lv_iload hx hb dX12_happen_61 (lv_at hl 7 rfl) ?_
          obtain ⟨k103, hf⟩ := hf
          obtain ⟨h104, hf⟩ := hf
          refine gm_iald hx hb hK hW k103 h104 dX12_happen_63 ?_
          refine lv_iload_n hx hb dX12_happen_64 rfl (lv_at hl 2 rfl) ?_
          refine lv_icmp_eq (tgt := 72) hx hb dX12_happen_65 (by decide) (fun c105 => ?_) (fun c105 => ?_)
          · replace hf := hf.1 c105
            exact j72  _ _ _ (lv_sub hl [0, 1, 2, 3, 4, 5, 6, 7] rfl) hW hS hf
          · replace hf := hf.2 c105
            refine lv_iconst (v := 1) hx hb dX12_happen_68 (by decide +kernel) ?_
            refine lv_goto (tgt := 73) hx hb dX12_happen_69 (by decide) ?_
            exact j73 _ _ _ _ (lv_sub hl [0, 1, 2, 3, 4, 5, 6, 7] rfl) hW hS hf
  exact lp37 n37 _ _ _ _ _ _ _ _ (lv_sub hl [6, 7, 5, 4, 3, 2, 1, 0] rfl) hW hS hf

abbrev rm_X12_compact : Room := { frames := 7, cells := 0, slots := 0, locals := 203 }
def f_X12_compact_222 (Y : Ly) (Kn : Int32 → Mm → Prop) (M27 : Mm) (y28 : Int32) : Prop :=
  Kn y28 M27
def f_X12_compact_209 (Y : Ly) (v0 : Nat) (Kn : Int32 → Mm → Prop) (x9 : Int32) (M27 : Mm) : Prop :=
  ((mI M27 v0 5) = 0 → (f_X12_compact_222 Y Kn M27 x9)) ∧ (¬ ((mI M27 v0 5) = 0) → (f_X12_compact_222 Y Kn M27 (-3)))
def L_X12_compact_164 (Y : Ly) (v0 : Nat) (v1 : Int32) (Kn : Int32 → Mm → Prop) (x9 : Int32) (x21 : Int32) (x22 : Int32) (M23 : Mm) (again164 : Int32 → Int32 → Mm → Prop) : Prop :=
  ((mI M23 v0 64) ≤ x22 → (f_X12_spend Y v0 x21 M23 (fun r26 M25 => ((r26 = 0 → (f_X12_compact_209 Y v0 Kn x9 M25)) ∧ (¬ (r26 = 0) → (f_X12_happen Y v0 v1 M25 (fun M31 => (f_X12_compact_209 Y v0 Kn x9 M31)))))))) ∧ (¬ ((mI M23 v0 64) ≤ x22) → (∃ b32 : Nat, mR M23 v0 66 = some b32 ∧ (yK Y b32 = 101 ∧ (vp_in x22 (yN Y b32) ∧ (f_X12_touched Y 0 (mI M23 b32 x22.toNatClampNeg) M23 (fun r36 M35 => (∀ x37 : Int32, x37 = x21 + r36 → (∀ x38 : Int32, x38 = x22 + 1 → (again164 x37 x38 M35)))))))))
def f_X12_compact_133 (Y : Ly) (x14 : Int32) (again83 : Int32 → Int32 → Int32 → Mm → Prop) (x41 : Int32) (x42 : Int32) (M43 : Mm) : Prop :=
  ∀ x44 : Int32, x44 = x14 + 1 → (again83 x41 x42 x44 M43)
def f_X12_compact_131 (Y : Ly) (x12 : Int32) (x14 : Int32) (again83 : Int32 → Int32 → Int32 → Mm → Prop) (M46 : Mm) (x48 : Int32) (y52 : Int32) : Prop :=
  ∀ x53 : Int32, x53 = x12 + y52 → (f_X12_compact_133 Y x14 again83 x53 x48 M46)
def L_X12_compact_83 (Y : Ly) (v0 : Nat) (v1 : Int32) (Kn : Int32 → Mm → Prop) (x9 : Int32) (x12 : Int32) (x13 : Int32) (x14 : Int32) (M15 : Mm) (again83 : Int32 → Int32 → Int32 → Mm → Prop) : Prop :=
  ((mI M15 v0 18) ≤ x14 → ((¬ (x9 + x12) = 0 → (f_X12_plan Y v0 v1 M15 (fun r19 M18 => ((¬ r19 = 0 → (∃ n, LOOP3 (L_X12_compact_164 Y v0 v1 Kn x9) n 1 0 M18)) ∧ (r19 = 0 → (Kn (-2) M18)))))) ∧ ((x9 + x12) = 0 → (Kn 0 M15)))) ∧ (¬ ((mI M15 v0 18) ≤ x14) → (f_X12_isClosed Y v0 x14 v1 M15 (fun r40 M39 => ((r40 = 0 → (f_X12_compact_133 Y x14 again83 x12 x13 M39)) ∧ (¬ (r40 = 0) → (f_X12_strip Y v0 x14 x13 M39 (fun r47 M46 => (∀ x48 : Int32, x48 = x13 + r47 → (∃ b49 : Nat, mR M46 v0 63 = some b49 ∧ (yK Y b49 = 101 ∧ (vp_in x14 (yN Y b49) ∧ ((¬ (mI M46 b49 x14.toNatClampNeg) = 0 → (f_X12_compact_131 Y x12 x14 again83 M46 x48 0)) ∧ ((mI M46 b49 x14.toNatClampNeg) = 0 → (f_X12_compact_131 Y x12 x14 again83 M46 x48 1))))))))))))))
def f_X12_compact_67 (Y : Ly) (x9 : Int32) (x10 : Int32) (again44 : Int32 → Int32 → Prop) (y58 : Int32) : Prop :=
  ∀ x59 : Int32, x59 = x9 + y58 → (∀ x60 : Int32, x60 = x10 + 1 → (again44 x59 x60))
def L_X12_compact_44 (Y : Ly) (v0 : Nat) (v1 : Int32) (Kn : Int32 → Mm → Prop) (M8 : Mm) (x9 : Int32) (x10 : Int32) (again44 : Int32 → Int32 → Prop) : Prop :=
  ((mI M8 v0 53) ≤ x10 → (∃ n, LOOP4 (L_X12_compact_83 Y v0 v1 Kn x9) n 0 0 0 M8)) ∧ (¬ ((mI M8 v0 53) ≤ x10) → (∃ b55 : Nat, mR M8 v0 59 = some b55 ∧ (yK Y b55 = 103 ∧ (vp_in x10 (yN Y b55) ∧ (((mI M8 b55 x10.toNatClampNeg) = 0 → (f_X12_compact_67 Y x9 x10 again44 0)) ∧ (¬ ((mI M8 b55 x10.toNatClampNeg) = 0) → (f_X12_compact_67 Y x9 x10 again44 1)))))))
def f_X12_compact_18 (Y : Ly) (v0 : Nat) (v1 : Int32) (M : Mm) (Kn : Int32 → Mm → Prop) (y1 : Int32) : Prop :=
  yK Y v0 = 12 ∧ (f_X12_goes Y v0 y1 M (fun r3 M2 => ((¬ r3 = 0 → (f_X12_tidy Y v0 M2 (fun M6 => (f_X12_list Y v0 v1 M6 (fun M7 => (f_X12_judge Y v0 v1 M7 (fun M8 => (∃ n, LOOP2 (L_X12_compact_44 Y v0 v1 Kn M8) n 0 0)))))))) ∧ (r3 = 0 → (Kn 0 M2)))))
def f_X12_compact_17 (Y : Ly) (v0 : Nat) (v1 : Int32) (M : Mm) (Kn : Int32 → Mm → Prop) : Prop :=
  f_X12_compact_18 Y v0 v1 M Kn 0
def f_X12_compact (Y : Ly) (v0 : Nat) (v1 : Int32) (M : Mm) (Kn : Int32 → Mm → Prop) : Prop :=
  (v1 < 0 → (f_X12_compact_17 Y v0 v1 M Kn)) ∧ (¬ (v1 < 0) → (yK Y v0 = 12 ∧ (((mI M v0 1) < v1 → (f_X12_compact_17 Y v0 v1 M Kn)) ∧ (¬ ((mI M v0 1) < v1) → (f_X12_compact_18 Y v0 v1 M Kn 1)))))
set_option maxHeartbeats 4000000 in
set_option maxRecDepth 100000 in
theorem m_X12_compact (l : Launch) (D : va_G) (cy : Cy) (tq sz : Nat) (Y : Ly) (v0 : Nat) (v1 : Int32) (M : Mm) (Kn : Int32 → Mm → Prop) : Met l yX12_compact (Cond.code yX12_compact cX12_compact 7 (some .int) :: TT) rm_X12_compact (PcG D cy tq [.ref v0, .int v1] sz Y M (f_X12_compact Y v0 v1 M Kn)) (va_Qi Kn (BG D cy (Am Y sz) Y) (Am Y sz)) 0 0 (Am Y sz) := by
  refine Met.ofW (cc := cX12_compact) (maxL := 7) (ret := (some .int)) (by decide) rfl ?_
  intro p e s m args below meth c s₁ B hml hv
  obtain ⟨hargs, hsz, hW, hK, hC, hf⟩ := hv
  subst hsz
  have hx := B.exec
  have hb := B.bytes
  have hr := B.returns
  have hts : ∀ w ∈ TT, w.before args s = true := fun w h => atoms_spec (ws := Cond.code yX12_compact cX12_compact 7 (some .int) :: TT) B.pre w (List.mem_cons_of_mem _ h)
  have hown : s.vm.findClass RX12 = some m.cls := findClass_of_methodNamed B.named
  have hlocks := B.notSynchronized
  replace hW := Wd_self (sz := s.heap.size) hW
  generalize hAe : Am Y s.heap.size = A at hW hC ⊢
  have hA : ∀ q : Nat, s.heap.size ≤ q → A q := fun q h => by rw [← hAe]; exact Or.inr h
  clear hAe
  have hS : va_S A s.heap s.heap [] := va_S.rf
  obtain ⟨ls, hE, hl⟩ := gm_entry m [.ref v0, .int v1] (n := 7) hargs (Nat.le_of_ble_eq_true rfl)
  rw [hE]
  have hl : lv_has ls 7 [(0, .ref v0), (1, .int v1)] := hl
  show W p l e rm_X12_compact s m args below meth c s.heap [] 0 0 (MQ below (va_Qi Kn (BG D cy A Y) A) args s 0 0 A) (F0 m 0 ls [])
  unfold f_X12_compact at hf
  refine lv_aload_n hx hb dX12_compact_0 rfl (lv_at hl 0 rfl) ?_
  refine lv_iload_n hx hb dX12_compact_1 rfl (lv_at hl 1 rfl) ?_
  have j18 : ∀ (y1 : Int32) (H : Heap) (locs : List Loc) (ls : Array Slot), lv_has ls 7 [(0, .ref v0), (1, .int v1)] → Wd D cy A Y M H → va_S A s.heap H locs → f_X12_compact_18 Y v0 v1 M Kn y1 → W p l e rm_X12_compact s m args below meth c H locs 0 0 (MQ below (va_Qi Kn (BG D cy A Y) A) args s 0 0 A) (F0 m 18 ls [.int y1, .ref v0]) := by
    intro y1 H locs ls hl hW hS hf
    unfold f_X12_compact_18 at hf
    obtain ⟨k4, hf⟩ := hf
    refine gm_ci (va_runV (As := [.int y1]) (rest := []) ⟨hx, hb, hml, hown, hts⟩ (m_X12_goes l D cy tq _ Y _ _ _ _) (cwV 1 hts (good_V kw_1564 kw_1565 kw_1838 kw_12 kw_1566) rfl rfl rfl (by decide +kernel) ⟨Nat.le_of_ble_eq_true rfl, Nat.le_of_ble_eq_true rfl⟩) (gm_preV hK hW hC hS hA k4 (by decide) (q := (RX12, TX12, 68)) rfl rfl hf) rfl rfl hl.1 rfl (lv_room (Nat.le_of_ble_eq_true rfl)) dX12_compact_18 ⟨Nat.le_of_ble_eq_true rfl, Nat.le_of_ble_eq_true rfl⟩) hW hS hA (fun r3 M2 H locs hW hS hf => ?_)
    refine lv_if_ne (tgt := 26) hx hb dX12_compact_21 (by decide) (fun c5 => ?_) (fun c5 => ?_)
    · replace hf := hf.1 c5
      refine lv_aload_n hx hb dX12_compact_26 rfl (lv_at hl 0 rfl) ?_
      refine gm_cv (va_runV (As := []) (rest := []) ⟨hx, hb, hml, hown, hts⟩ (m_X12_tidy l D cy tq _ Y _ _ _) (cwV 0 hts (good_V kw_1612 kw_1613 kw_1850 kw_12 kw_1614) rfl rfl rfl (by decide +kernel) ⟨Nat.le_of_ble_eq_true rfl, Nat.le_of_ble_eq_true rfl⟩) (gm_preV hK hW hC hS hA k4 (by decide) (q := (RX12, TX12, 68)) rfl rfl hf) rfl rfl hl.1 rfl (lv_room (Nat.le_of_ble_eq_true rfl)) dX12_compact_27 ⟨Nat.le_of_ble_eq_true rfl, Nat.le_of_ble_eq_true rfl⟩) hW hS hA (fun M6 H locs hW hS hf => ?_)
      refine lv_aload_n hx hb dX12_compact_30 rfl (lv_at hl 0 rfl) ?_
      refine lv_iload_n hx hb dX12_compact_31 rfl (lv_at hl 1 rfl) ?_
      refine gm_cv (va_runV (As := [.int v1]) (rest := []) ⟨hx, hb, hml, hown, hts⟩ (m_X12_list l D cy tq _ Y _ _ _ _) (cwV 1 hts (good_V kw_1665 kw_1666 kw_1857 kw_12 kw_1667) rfl rfl rfl (by decide +kernel) ⟨Nat.le_of_ble_eq_true rfl, Nat.le_of_ble_eq_true rfl⟩) (gm_preV hK hW hC hS hA k4 (by decide) (q := (RX12, TX12, 68)) rfl rfl hf) rfl rfl hl.1 rfl (lv_room (Nat.le_of_ble_eq_true rfl)) dX12_compact_32 ⟨Nat.le_of_ble_eq_true rfl, Nat.le_of_ble_eq_true rfl⟩) hW hS hA (fun M7 H locs hW hS hf => ?_)
      refine lv_aload_n hx hb dX12_compact_35 rfl (lv_at hl 0 rfl) ?_
      refine lv_iload_n hx hb dX12_compact_36 rfl (lv_at hl 1 rfl) ?_
      refine gm_cv (va_runV (As := [.int v1]) (rest := []) ⟨hx, hb, hml, hown, hts⟩ (m_X12_judge l D cy tq _ Y _ _ _ _) (cwV 1 hts (good_V kw_1668 kw_1669 kw_1858 kw_12 kw_1670) rfl rfl rfl (by decide +kernel) ⟨Nat.le_of_ble_eq_true rfl, Nat.le_of_ble_eq_true rfl⟩) (gm_preV hK hW hC hS hA k4 (by decide) (q := (RX12, TX12, 68)) rfl rfl hf) rfl rfl hl.1 rfl (lv_room (Nat.le_of_ble_eq_true rfl)) dX12_compact_37 ⟨Nat.le_of_ble_eq_true rfl, Nat.le_of_ble_eq_true rfl⟩) hW hS hA (fun M8 H locs hW hS hf => ?_)
      refine lv_iconst (v := 0) hx hb dX12_compact_40 (by decide +kernel) ?_
      refine lv_istore_n (lv' := [(2, .int 0), (0, .ref v0), (1, .int v1)]) hx hb dX12_compact_41 rfl hl (by decide) rfl (fun ls hl => ?_)
      refine lv_iconst (v := 0) hx hb dX12_compact_42 (by decide +kernel) ?_
      refine lv_istore_n (lv' := [(3, .int 0), (2, .int 0), (0, .ref v0), (1, .int v1)]) hx hb dX12_compact_43 rfl hl (by decide) rfl (fun ls hl => ?_)
      obtain ⟨n44, hf⟩ := hf
      have lp44 : ∀ (n44 : Nat) (x9 : Int32) (x10 : Int32) (H : Heap) (locs : List Loc) (ls : Array Slot), lv_has ls 7 [(0, .ref v0), (1, .int v1), (2, .int x9), (3, .int x10)] → Wd D cy A Y M8 H → va_S A s.heap H locs → LOOP2 (L_X12_compact_44 Y v0 v1 Kn M8) n44 x9 x10 → W p l e rm_X12_compact s m args below meth c H locs 0 0 (MQ below (va_Qi Kn (BG D cy A Y) A) args s 0 0 A) (F0 m 44 ls []) := by
        intro n44
        induction n44 with
        | zero => intro x9 x10 H locs ls hl hW hS hf; exact hf.elim
        | succ n44 ih44 =>
          intro x9 x10 H locs ls hl hW hS hf
          replace hf : L_X12_compact_44 Y v0 v1 Kn M8 x9 x10 (LOOP2 (L_X12_compact_44 Y v0 v1 Kn M8) n44) := hf
          unfold L_X12_compact_44 at hf
          refine lv_iload_n hx hb dX12_compact_44 rfl (lv_at hl 3 rfl) ?_
          refine lv_aload_n hx hb dX12_compact_45 rfl (lv_at hl 0 rfl) ?_
          refine gm_getI (C := RX12) (T := TX12) (N := 68) (j := 53) hx hb hts inT_12 hown hK hW k4 (by decide) rfl (by decide) rfl (hts _ kw_1369) rfl dX12_compact_46 ?_
          refine lv_icmp_ge (tgt := 75) hx hb dX12_compact_49 (by decide) (fun c11 => ?_) (fun c11 => ?_)
          · replace hf := hf.1 c11
            refine lv_iconst (v := 0) hx hb dX12_compact_75 (by decide +kernel) ?_
            refine lv_istore_n (lv' := [(3, .int 0), (0, .ref v0), (1, .int v1), (2, .int x9)]) hx hb dX12_compact_76 rfl hl (by decide) rfl (fun ls hl => ?_)
            refine lv_iconst (v := 0) hx hb dX12_compact_77 (by decide +kernel) ?_
            refine lv_istore (lv' := [(4, .int 0), (3, .int 0), (0, .ref v0), (1, .int v1), (2, .int x9)]) hx hb dX12_compact_78 hl (by decide) rfl (fun ls hl => ?_)
            refine lv_iconst (v := 0) hx hb dX12_compact_80 (by decide +kernel) ?_
            refine lv_istore (lv' := [(5, .int 0), (4, .int 0), (3, .int 0), (0, .ref v0), (1, .int v1), (2, .int x9)]) hx hb dX12_compact_81 hl (by decide) rfl (fun ls hl => ?_)
            obtain ⟨n83, hf⟩ := hf
            have lp83 : ∀ (n83 : Nat) (x12 : Int32) (x13 : Int32) (x14 : Int32) (M15 : Mm) (H : Heap) (locs : List Loc) (ls : Array Slot), lv_has ls 7 [(0, .ref v0), (1, .int v1), (2, .int x9), (3, .int x12), (4, .int x13), (5, .int x14)] → Wd D cy A Y M15 H → va_S A s.heap H locs → LOOP4 (L_X12_compact_83 Y v0 v1 Kn x9) n83 x12 x13 x14 M15 → W p l e rm_X12_compact s m args below meth c H locs 0 0 (MQ below (va_Qi Kn (BG D cy A Y) A) args s 0 0 A) (F0 m 83 ls []) := by
              intro n83
              induction n83 with
              | zero => intro x12 x13 x14 M15 H locs ls hl hW hS hf; exact hf.elim
              | succ n83 ih83 =>
                intro x12 x13 x14 M15 H locs ls hl hW hS hf
                replace hf : L_X12_compact_83 Y v0 v1 Kn x9 x12 x13 x14 M15 (LOOP4 (L_X12_compact_83 Y v0 v1 Kn x9) n83) := hf
                unfold L_X12_compact_83 at hf
                refine lv_iload hx hb dX12_compact_83 (lv_at hl 5 rfl) ?_
                refine lv_aload_n hx hb dX12_compact_85 rfl (lv_at hl 0 rfl) ?_
                refine gm_getI (C := RX12) (T := TX12) (N := 68) (j := 18) hx hb hts inT_12 hown hK hW k4 (by decide) rfl (by decide) rfl (hts _ kw_1334) rfl dX12_compact_86 ?_
                refine lv_icmp_ge (tgt := 139) hx hb dX12_compact_89 (by decide) (fun c16 => ?_) (fun c16 => ?_)
                · replace hf := hf.1 c16
                  refine lv_iload_n hx hb dX12_compact_139 rfl (lv_at hl 2 rfl) ?_
                  refine lv_iload_n hx hb dX12_compact_140 rfl (lv_at hl 3 rfl) ?_
                  refine lv_iadd hx hb dX12_compact_141 ?_
                  refine lv_if_ne (tgt := 147) hx hb dX12_compact_142 (by decide) (fun c17 => ?_) (fun c17 => ?_)
                  · replace hf := hf.1 c17
                    refine lv_aload_n hx hb dX12_compact_147 rfl (lv_at hl 0 rfl) ?_
                    refine lv_iload_n hx hb dX12_compact_148 rfl (lv_at hl 1 rfl) ?_
                    refine gm_ci (va_runV (As := [.int v1]) (rest := []) ⟨hx, hb, hml, hown, hts⟩ (m_X12_plan l D cy tq _ Y _ _ _ _) (cwV 1 hts (good_V kw_1686 kw_1687 kw_1864 kw_12 kw_1688) rfl rfl rfl (by decide +kernel) ⟨Nat.le_of_ble_eq_true rfl, Nat.le_of_ble_eq_true rfl⟩) (gm_preV hK hW hC hS hA k4 (by decide) (q := (RX12, TX12, 68)) rfl rfl hf) rfl rfl hl.1 rfl (lv_room (Nat.le_of_ble_eq_true rfl)) dX12_compact_149 ⟨Nat.le_of_ble_eq_true rfl, Nat.le_of_ble_eq_true rfl⟩) hW hS hA (fun r19 M18 H locs hW hS hf => ?_)
                    refine lv_if_ne (tgt := 158) hx hb dX12_compact_152 (by decide) (fun c20 => ?_) (fun c20 => ?_)
                    · replace hf := hf.1 c20
                      refine lv_iconst (v := 1) hx hb dX12_compact_158 (by decide +kernel) ?_
                      refine lv_istore (lv' := [(5, .int 1), (0, .ref v0), (1, .int v1), (2, .int x9), (3, .int x12), (4, .int x13)]) hx hb dX12_compact_159 hl (by decide) rfl (fun ls hl => ?_)
                      refine lv_iconst (v := 0) hx hb dX12_compact_161 (by decide +kernel) ?_
                      refine lv_istore (lv' := [(6, .int 0), (5, .int 1), (0, .ref v0), (1, .int v1), (2, .int x9), (3, .int x12), (4, .int x13)]) hx hb dX12_compact_162 hl (by decide) rfl (fun ls hl => ?_)
                      obtain ⟨n164, hf⟩ := hf
                      have lp164 : ∀ (n164 : Nat) (x21 : Int32) (x22 : Int32) (M23 : Mm) (H : Heap) (locs : List Loc) (ls : Array Slot), lv_has ls 7 [(0, .ref v0), (1, .int v1), (2, .int x9), (5, .int x21), (6, .int x22)] → Wd D cy A Y M23 H → va_S A s.heap H locs → LOOP3 (L_X12_compact_164 Y v0 v1 Kn x9) n164 x21 x22 M23 → W p l e rm_X12_compact s m args below meth c H locs 0 0 (MQ below (va_Qi Kn (BG D cy A Y) A) args s 0 0 A) (F0 m 164 ls []) := by
                        intro n164
                        induction n164 with
                        | zero => intro x21 x22 M23 H locs ls hl hW hS hf; exact hf.elim
                        | succ n164 ih164 =>
                          intro x21 x22 M23 H locs ls hl hW hS hf
                          replace hf : L_X12_compact_164 Y v0 v1 Kn x9 x21 x22 M23 (LOOP3 (L_X12_compact_164 Y v0 v1 Kn x9) n164) := hf
                          unfold L_X12_compact_164 at hf
                          refine lv_iload hx hb dX12_compact_164 (lv_at hl 4 rfl) ?_
                          refine lv_aload_n hx hb dX12_compact_166 rfl (lv_at hl 0 rfl) ?_
                          refine gm_getI (C := RX12) (T := TX12) (N := 68) (j := 64) hx hb hts inT_12 hown hK hW k4 (by decide) rfl (by decide) rfl (hts _ kw_1380) rfl dX12_compact_167 ?_
                          refine lv_icmp_ge (tgt := 195) hx hb dX12_compact_170 (by decide) (fun c24 => ?_) (fun c24 => ?_)
                          · replace hf := hf.1 c24
                            refine lv_aload_n hx hb dX12_compact_195 rfl (lv_at hl 0 rfl) ?_
                            refine lv_iload hx hb dX12_compact_196 (lv_at hl 3 rfl) ?_
                            refine gm_ci (va_runV (As := [.int x21]) (rest := []) ⟨hx, hb, hml, hown, hts⟩ (m_X12_spend l D cy tq _ Y _ _ _ _) (cwV 1 hts (good_V kw_1555 kw_1556 kw_1837 kw_12 kw_1557) rfl rfl rfl (by decide +kernel) ⟨Nat.le_of_ble_eq_true rfl, Nat.le_of_ble_eq_true rfl⟩) (gm_preV hK hW hC hS hA k4 (by decide) (q := (RX12, TX12, 68)) rfl rfl hf) rfl rfl hl.1 rfl (lv_room (Nat.le_of_ble_eq_true rfl)) dX12_compact_198 ⟨Nat.le_of_ble_eq_true rfl, Nat.le_of_ble_eq_true rfl⟩) hW hS hA (fun r26 M25 H locs hW hS hf => ?_)
                            have j209 : ∀ (M27 : Mm) (H : Heap) (locs : List Loc) (ls : Array Slot), lv_has ls 7 [(0, .ref v0), (2, .int x9)] → Wd D cy A Y M27 H → va_S A s.heap H locs → f_X12_compact_209 Y v0 Kn x9 M27 → W p l e rm_X12_compact s m args below meth c H locs 0 0 (MQ below (va_Qi Kn (BG D cy A Y) A) args s 0 0 A) (F0 m 209 ls []) := by
                              intro M27 H locs ls hl hW hS hf
                              unfold f_X12_compact_209 at hf
                              refine lv_aload_n hx hb dX12_compact_209 rfl (lv_at hl 0 rfl) ?_
                              refine gm_getI (C := RX12) (T := TX12) (N := 68) (j := 5) hx hb hts inT_12 hown hK hW k4 (by decide) rfl (by decide) rfl (hts _ kw_1321) rfl dX12_compact_210 ?_
                              have j222 : ∀ (y28 : Int32) (H : Heap) (locs : List Loc) (ls : Array Slot), lv_has ls 7 [] → Wd D cy A Y M27 H → va_S A s.heap H locs → f_X12_compact_222 Y Kn M27 y28 → W p l e rm_X12_compact s m args below meth c H locs 0 0 (MQ below (va_Qi Kn (BG D cy A Y) A) args s 0 0 A) (F0 m 222 ls [.int y28]) := by
                                intro y28 H locs ls hl hW hS hf
                                unfold f_X12_compact_222 at hf
                                exact gm_iret hx hb hr hlocks hW hS hf dX12_compact_222
                              refine lv_if_eq (tgt := 221) hx hb dX12_compact_213 (by decide) (fun c29 => ?_) (fun c29 => ?_)
                              · replace hf := hf.1 c29
                                refine lv_iload_n hx hb dX12_compact_221 rfl (lv_at hl 1 rfl) ?_
                                exact j222 _ _ _ _ (lv_sub hl [] rfl) hW hS hf
                              · replace hf := hf.2 c29
                                refine lv_bipush (v := -3) hx hb dX12_compact_216 (by decide +kernel) ?_
                                refine lv_goto (tgt := 222) hx hb dX12_compact_218 (by decide) ?_
                                exact j222 _ _ _ _ (lv_sub hl [] rfl) hW hS hf
                            refine lv_if_eq (tgt := 209) hx hb dX12_compact_201 (by decide) (fun c30 => ?_) (fun c30 => ?_)
                            · replace hf := hf.1 c30
                              exact j209 _ _ _ _ (lv_sub hl [0, 2] rfl) hW hS hf
                            · replace hf := hf.2 c30
                              refine lv_aload_n hx hb dX12_compact_204 rfl (lv_at hl 0 rfl) ?_
                              refine lv_iload_n hx hb dX12_compact_205 rfl (lv_at hl 1 rfl) ?_
                              refine gm_cv (va_runV (As := [.int v1]) (rest := []) ⟨hx, hb, hml, hown, hts⟩ (m_X12_happen l D cy tq _ Y _ _ _ _) (cwV 1 hts (good_V kw_1689 kw_1690 kw_1865 kw_12 kw_1691) rfl rfl rfl (by decide +kernel) ⟨Nat.le_of_ble_eq_true rfl, Nat.le_of_ble_eq_true rfl⟩) (gm_preV hK hW hC hS hA k4 (by decide) (q := (RX12, TX12, 68)) rfl rfl hf) rfl rfl hl.1 rfl (lv_room (Nat.le_of_ble_eq_true rfl)) dX12_compact_206 ⟨Nat.le_of_ble_eq_true rfl, Nat.le_of_ble_eq_true rfl⟩) hW hS hA (fun M31 H locs hW hS hf => ?_)
                              exact j209 _ _ _ _ (lv_sub hl [0, 2] rfl) hW hS hf
                          · replace hf := hf.2 c24
                            refine lv_iload hx hb dX12_compact_173 (lv_at hl 3 rfl) ?_
                            refine lv_iconst (v := 0) hx hb dX12_compact_175 (by decide +kernel) ?_
                            refine lv_aload_n hx hb dX12_compact_176 rfl (lv_at hl 0 rfl) ?_
                            obtain ⟨b32, hb32, hf⟩ := hf
                            refine gm_getR (C := RX12) (T := TX12) (N := 68) (j := 66) hx hb hts inT_12 hown hK hW k4 (by decide) rfl (by decide) rfl (hts _ kw_1382) rfl dX12_compact_177 hb32 ?_
                            refine lv_iload hx hb dX12_compact_180 (lv_at hl 4 rfl) ?_
                            obtain ⟨k33, hf⟩ := hf
                            obtain ⟨h34, hf⟩ := hf
                            refine gm_iald hx hb hK hW k33 h34 dX12_compact_182 ?_
                            refine gm_ci (va_runS (As := [.int 0, .int (mI M23 b32 x22.toNatClampNeg)]) (rest := [.int x21]) ⟨hx, hb, hml, hown, hts⟩ (m_X12_touched l D cy tq _ Y _ _ _ _) (va_cwS 2 hts (good_S kw_1608 kw_1609 kw_12 kw_1610) rfl rfl rfl (by decide +kernel) ⟨Nat.le_of_ble_eq_true rfl, Nat.le_of_ble_eq_true rfl⟩) (gm_preS hK hW hC hS hA hf) rfl rfl hl.1 rfl (lv_room (Nat.le_of_ble_eq_true rfl)) dX12_compact_183 ⟨Nat.le_of_ble_eq_true rfl, Nat.le_of_ble_eq_true rfl⟩) hW hS hA (fun r36 M35 H locs hW hS hf => ?_)
                            refine lv_iadd hx hb dX12_compact_186 ?_
                            refine lv_topi (fun x37 ex37 => ?_)
                            replace hf := hf x37 ex37
                            refine lv_istore (lv' := [(5, .int x37), (0, .ref v0), (1, .int v1), (2, .int x9), (6, .int x22)]) hx hb dX12_compact_187 hl (by decide) rfl (fun ls hl => ?_)
                            obtain ⟨x38, ex38⟩ : ∃ y : Int32, y = x22 + 1 := ⟨_, rfl⟩
                            replace hf := hf x38 ex38
                            refine lv_iinc (v := x38) (lv' := [(6, .int x38), (5, .int x37), (0, .ref v0), (1, .int v1), (2, .int x9)]) hx hb dX12_compact_189 hl (k := 4) rfl (by rw [ex38]; rfl) (by decide) rfl (fun ls hl => ?_)
                            refine lv_goto (tgt := 164) hx hb dX12_compact_192 (by decide) ?_
                            exact ih164 _ _ _ _ _ _ (lv_sub hl [2, 3, 4, 1, 0] rfl) hW hS hf
                      exact lp164 n164 _ _ _ _ _ _ (lv_sub hl [2, 3, 4, 1, 0] rfl) hW hS hf
                    · replace hf := hf.2 c20
                      refine lv_bipush (v := -2) hx hb dX12_compact_155 (by decide +kernel) ?_
                      exact gm_iret hx hb hr hlocks hW hS hf dX12_compact_157
                  · replace hf := hf.2 c17
                    refine lv_iconst (v := 0) hx hb dX12_compact_145 (by decide +kernel) ?_
                    exact gm_iret hx hb hr hlocks hW hS hf dX12_compact_146
                · replace hf := hf.2 c16
                  refine lv_aload_n hx hb dX12_compact_92 rfl (lv_at hl 0 rfl) ?_
                  refine lv_iload hx hb dX12_compact_93 (lv_at hl 5 rfl) ?_
                  refine lv_iload_n hx hb dX12_compact_95 rfl (lv_at hl 1 rfl) ?_
                  refine gm_ci (va_runV (As := [.int x14, .int v1]) (rest := []) ⟨hx, hb, hml, hown, hts⟩ (m_X12_isClosed l D cy tq _ Y _ _ _ _ _) (cwV 2 hts (good_V kw_1674 kw_1675 kw_1860 kw_12 kw_1676) rfl rfl rfl (by decide +kernel) ⟨Nat.le_of_ble_eq_true rfl, Nat.le_of_ble_eq_true rfl⟩) (gm_preV hK hW hC hS hA k4 (by decide) (q := (RX12, TX12, 68)) rfl rfl hf) rfl rfl hl.1 rfl (lv_room (Nat.le_of_ble_eq_true rfl)) dX12_compact_96 ⟨Nat.le_of_ble_eq_true rfl, Nat.le_of_ble_eq_true rfl⟩) hW hS hA (fun r40 M39 H locs hW hS hf => ?_)
                  have j133 : ∀ (x41 : Int32) (x42 : Int32) (M43 : Mm) (H : Heap) (locs : List Loc) (ls : Array Slot), lv_has ls 7 [(0, .ref v0), (1, .int v1), (2, .int x9), (3, .int x41), (4, .int x42), (5, .int x14)] → Wd D cy A Y M43 H → va_S A s.heap H locs → f_X12_compact_133 Y x14 (LOOP4 (L_X12_compact_83 Y v0 v1 Kn x9) n83) x41 x42 M43 → W p l e rm_X12_compact s m args below meth c H locs 0 0 (MQ below (va_Qi Kn (BG D cy A Y) A) args s 0 0 A) (F0 m 133 ls []) := by
                    intro x41 x42 M43 H locs ls hl hW hS hf
                    unfold f_X12_compact_133 at hf
                    obtain ⟨x44, ex44⟩ : ∃ y : Int32, y = x14 + 1 := ⟨_, rfl⟩
                    replace hf := hf x44 ex44
                    refine lv_iinc (v := x44) (lv' := [(5, .int x44), (0, .ref v0), (1, .int v1), (2, .int x9), (3, .int x41), (4, .int x42)]) hx hb dX12_compact_133 hl (k := 5) rfl (by rw [ex44]; rfl) (by decide) rfl (fun ls hl => ?_)
                    refine lv_goto (tgt := 83) hx hb dX12_compact_136 (by decide) ?_
                    exact ih83 _ _ _ _ _ _ _ (lv_sub hl [1, 2, 3, 4, 5, 0] rfl) hW hS hf
                  refine lv_if_eq (tgt := 133) hx hb dX12_compact_99 (by decide) (fun c45 => ?_) (fun c45 => ?_)
                  · replace hf := hf.1 c45
                    exact j133 _ _ _ _ _ _ (lv_sub hl [0, 1, 2, 3, 4, 5] rfl) hW hS hf
                  · replace hf := hf.2 c45
                    refine lv_iload hx hb dX12_compact_102 (lv_at hl 4 rfl) ?_
                    refine lv_aload_n hx hb dX12_compact_104 rfl (lv_at hl 0 rfl) ?_
                    refine lv_iload hx hb dX12_compact_105 (lv_at hl 5 rfl) ?_
                    refine lv_iload hx hb dX12_compact_107 (lv_at hl 4 rfl) ?_
                    refine gm_ci (va_runV (As := [.int x14, .int x13]) (rest := [.int x13]) ⟨hx, hb, hml, hown, hts⟩ (m_X12_strip l D cy tq _ Y _ _ _ _ _) (cwV 2 hts (good_V kw_1680 kw_1681 kw_1862 kw_12 kw_1682) rfl rfl rfl (by decide +kernel) ⟨Nat.le_of_ble_eq_true rfl, Nat.le_of_ble_eq_true rfl⟩) (gm_preV hK hW hC hS hA k4 (by decide) (q := (RX12, TX12, 68)) rfl rfl hf) rfl rfl hl.1 rfl (lv_room (Nat.le_of_ble_eq_true rfl)) dX12_compact_109 ⟨Nat.le_of_ble_eq_true rfl, Nat.le_of_ble_eq_true rfl⟩) hW hS hA (fun r47 M46 H locs hW hS hf => ?_)
                    refine lv_iadd hx hb dX12_compact_112 ?_
                    refine lv_topi (fun x48 ex48 => ?_)
                    replace hf := hf x48 ex48
                    refine lv_istore (lv' := [(4, .int x48), (0, .ref v0), (1, .int v1), (2, .int x9), (3, .int x12), (5, .int x14)]) hx hb dX12_compact_113 hl (by decide) rfl (fun ls hl => ?_)
                    refine lv_iload_n hx hb dX12_compact_115 rfl (lv_at hl 4 rfl) ?_
                    refine lv_aload_n hx hb dX12_compact_116 rfl (lv_at hl 1 rfl) ?_
                    obtain ⟨b49, hb49, hf⟩ := hf
                    refine gm_getR (C := RX12) (T := TX12) (N := 68) (j := 63) hx hb hts inT_12 hown hK hW k4 (by decide) rfl (by decide) rfl (hts _ kw_1379) rfl dX12_compact_117 hb49 ?_
                    refine lv_iload hx hb dX12_compact_120 (lv_at hl 5 rfl) ?_
                    obtain ⟨k50, hf⟩ := hf
                    obtain ⟨h51, hf⟩ := hf
                    refine gm_iald hx hb hK hW k50 h51 dX12_compact_122 ?_
                    have j131 : ∀ (y52 : Int32) (H : Heap) (locs : List Loc) (ls : Array Slot), lv_has ls 7 [(0, .ref v0), (1, .int v1), (2, .int x9), (4, .int x48), (5, .int x14)] → Wd D cy A Y M46 H → va_S A s.heap H locs → f_X12_compact_131 Y x12 x14 (LOOP4 (L_X12_compact_83 Y v0 v1 Kn x9) n83) M46 x48 y52 → W p l e rm_X12_compact s m args below meth c H locs 0 0 (MQ below (va_Qi Kn (BG D cy A Y) A) args s 0 0 A) (F0 m 131 ls [.int y52, .int x12]) := by
                      intro y52 H locs ls hl hW hS hf
                      unfold f_X12_compact_131 at hf
                      refine lv_iadd hx hb dX12_compact_131 ?_
                      refine lv_topi (fun x53 ex53 => ?_)
                      replace hf := hf x53 ex53
                      refine lv_istore_n (lv' := [(3, .int x53), (0, .ref v0), (1, .int v1), (2, .int x9), (4, .int x48), (5, .int x14)]) hx hb dX12_compact_132 rfl hl (by decide) rfl (fun ls hl => ?_)
                      exact j133 _ _ _ _ _ _ (lv_sub hl [1, 2, 3, 0, 4, 5] rfl) hW hS hf
                    refine lv_if_ne (tgt := 130) hx hb dX12_compact_123 (by decide) (fun c54 => ?_) (fun c54 => ?_)
                    · replace hf := hf.1 c54
                      refine lv_iconst (v := 0) hx hb dX12_compact_130 (by decide +kernel) ?_
                      exact j131 _ _ _ _ (lv_sub hl [1, 2, 3, 0, 5] rfl) hW hS hf
                    · replace hf := hf.2 c54
                      refine lv_iconst (v := 1) hx hb dX12_compact_126 (by decide +kernel) ?_
                      refine lv_goto (tgt := 131) hx hb dX12_compact_127 (by decide) ?_
                      exact j131 _ _ _ _ (lv_sub hl [1, 2, 3, 0, 5] rfl) hW hS hf
            exact lp83 n83 _ _ _ _ _ _ _ (lv_sub hl [3, 4, 5, 2, 1, 0] rfl) hW hS hf
          · replace hf := hf.2 c11
            refine lv_iload_n hx hb dX12_compact_52 rfl (lv_at hl 2 rfl) ?_
            refine lv_aload_n hx hb dX12_compact_53 rfl (lv_at hl 0 rfl) ?_
            obtain ⟨b55, hb55, hf⟩ := hf
            refine gm_getR (C := RX12) (T := TX12) (N := 68) (j := 59) hx hb hts inT_12 hown hK hW k4 (by decide) rfl (by decide) rfl (hts _ kw_1375) rfl dX12_compact_54 hb55 ?_
            refine lv_iload_n hx hb dX12_compact_57 rfl (lv_at hl 3 rfl) ?_
            obtain ⟨k56, hf⟩ := hf
            obtain ⟨h57, hf⟩ := hf
            refine gm_zald hx hb hK hW k56 h57 dX12_compact_58 ?_
            have j67 : ∀ (y58 : Int32) (H : Heap) (locs : List Loc) (ls : Array Slot), lv_has ls 7 [(0, .ref v0), (1, .int v1), (3, .int x10)] → Wd D cy A Y M8 H → va_S A s.heap H locs → f_X12_compact_67 Y x9 x10 (LOOP2 (L_X12_compact_44 Y v0 v1 Kn M8) n44) y58 → W p l e rm_X12_compact s m args below meth c H locs 0 0 (MQ below (va_Qi Kn (BG D cy A Y) A) args s 0 0 A) (F0 m 67 ls [.int y58, .int x9]) := by
              intro y58 H locs ls hl hW hS hf
              unfold f_X12_compact_67 at hf
              refine lv_iadd hx hb dX12_compact_67 ?_
              refine lv_topi (fun x59 ex59 => ?_)
              replace hf := hf x59 ex59
              refine lv_istore_n (lv' := [(2, .int x59), (0, .ref v0), (1, .int v1), (3, .int x10)]) hx hb dX12_compact_68 rfl hl (by decide) rfl (fun ls hl => ?_)
              obtain ⟨x60, ex60⟩ : ∃ y : Int32, y = x10 + 1 := ⟨_, rfl⟩
              replace hf := hf x60 ex60
              refine lv_iinc (v := x60) (lv' := [(3, .int x60), (2, .int x59), (0, .ref v0), (1, .int v1)]) hx hb dX12_compact_69 hl (k := 3) rfl (by rw [ex60]; rfl) (by decide) rfl (fun ls hl => ?_)
              refine lv_goto (tgt := 44) hx hb dX12_compact_72 (by decide) ?_
              exact ih44 _ _ _ _ _ (lv_sub hl [2, 3, 1, 0] rfl) hW hS hf
            refine lv_if_eq (tgt := 66) hx hb dX12_compact_59 (by decide) (fun c61 => ?_) (fun c61 => ?_)
            · replace hf := hf.1 c61
              refine lv_iconst (v := 0) hx hb dX12_compact_66 (by decide +kernel) ?_
              exact j67 _ _ _ _ (lv_sub hl [0, 1, 3] rfl) hW hS hf
            · replace hf := hf.2 c61
              refine lv_iconst (v := 1) hx hb dX12_compact_62 (by decide +kernel) ?_
              refine lv_goto (tgt := 67) hx hb dX12_compact_63 (by decide) ?_
              exact j67 _ _ _ _ (lv_sub hl [0, 1, 3] rfl) hW hS hf
      exact lp44 n44 _ _ _ _ _ (lv_sub hl [2, 3, 1, 0] rfl) hW hS hf
    · replace hf := hf.2 c5
      refine lv_iconst (v := 0) hx hb dX12_compact_24 (by decide +kernel) ?_
      exact gm_iret hx hb hr hlocks hW hS hf dX12_compact_25
  have j17 : ∀ (H : Heap) (locs : List Loc) (ls : Array Slot), lv_has ls 7 [(0, .ref v0), (1, .int v1)] → Wd D cy A Y M H → va_S A s.heap H locs → f_X12_compact_17 Y v0 v1 M Kn  → W p l e rm_X12_compact s m args below meth c H locs 0 0 (MQ below (va_Qi Kn (BG D cy A Y) A) args s 0 0 A) (F0 m 17 ls [.ref v0]) := by
    intro  H locs ls hl hW hS hf
    unfold f_X12_compact_17 at hf
    refine lv_iconst (v := 0) hx hb dX12_compact_17 (by decide +kernel) ?_
    exact j18 _ _ _ _ (lv_sub hl [0, 1] rfl) hW hS hf
  refine lv_if_lt (tgt := 17) hx hb dX12_compact_2 (by decide) (fun c62 => ?_) (fun c62 => ?_)
  · replace hf := hf.1 c62
    exact j17  _ _ _ (lv_sub hl [0, 1] rfl) hW hS hf
  · replace hf := hf.2 c62
    refine lv_iload_n hx hb dX12_compact_5 rfl (lv_at hl 1 rfl) ?_
    refine lv_aload_n hx hb dX12_compact_6 rfl (lv_at hl 0 rfl) ?_
    obtain ⟨k63, hf⟩ := hf
    refine gm_getI (C := RX12) (T := TX12) (N := 68) (j := 1) hx hb hts inT_12 hown hK hW k63 (by decide) rfl (by decide) rfl (hts _ kw_1317) rfl dX12_compact_7 ?_
    refine lv_icmp_gt (tgt := 17) hx hb dX12_compact_10 (by decide) (fun c64 => ?_) (fun c64 => ?_)
    · replace hf := hf.1 c64
      exact j17  _ _ _ (lv_sub hl [0, 1] rfl) hW hS hf
    · replace hf := hf.2 c64
      refine lv_iconst (v := 1) hx hb dX12_compact_13 (by decide +kernel) ?_
      refine lv_goto (tgt := 18) hx hb dX12_compact_14 (by decide) ?_
      exact j18 _ _ _ _ (lv_sub hl [0, 1] rfl) hW hS hf

abbrev rm_X12_notes : Room := { frames := 5, cells := 0, slots := 0, locals := 153 }
def L_X12_notes_3 (Y : Ly) (v0 : Nat) (v1 : Int32) (v2 : Int32) (v3 : Int64) (Kn : Int32 → Mm → Prop) (x1 : Int32) (M2 : Mm) (again3 : Int32 → Mm → Prop) : Prop :=
  (78 ≤ x1 → (yK Y v0 = 12 ∧ (∃ b5 : Nat, mR M2 v0 67 = some b5 ∧ (f_X12_set Y b5 8 66 4 M2 (fun M6 => (∃ b7 : Nat, mR M6 v0 67 = some b7 ∧ (yK Y b7 = 101 ∧ (vp_in 16 (yN Y b7) ∧ (∀ M10 : Mm, M10 = sI M6 b7 (m1 (mI M6 b7) (16 : Int32).toNatClampNeg 2) → (∃ b11 : Nat, mR M10 v0 67 = some b11 ∧ (f_X12_set Y b11 27 ((mI M10 v0 4).toInt64) 8 M10 (fun M12 => (∃ b13 : Nat, mR M12 v0 67 = some b13 ∧ (f_X12_set Y b13 35 ((mI M12 v0 4).toInt64) 8 M12 (fun M14 => (∃ b15 : Nat, mR M14 v0 67 = some b15 ∧ (f_X12_set Y b15 43 (-1) 8 M14 (fun M16 => (∃ b17 : Nat, mR M16 v0 67 = some b17 ∧ (f_X12_set Y b17 51 (-1) 2 M16 (fun M18 => (∃ b19 : Nat, mR M18 v0 67 = some b19 ∧ (f_X12_set Y b19 53 (-1) 4 M18 (fun M20 => (∃ b21 : Nat, mR M20 v0 67 = some b21 ∧ (f_X12_set Y b21 57 1 4 M20 (fun M22 => (∃ b23 : Nat, mR M22 v0 67 = some b23 ∧ (yK Y b23 = 101 ∧ (vp_in 61 (yN Y b23) ∧ (∀ M26 : Mm, M26 = sI M22 b23 (m1 (mI M22 b23) (61 : Int32).toNatClampNeg 32) → (∃ b27 : Nat, mR M26 v0 67 = some b27 ∧ (yK Y b27 = 101 ∧ (vp_in 65 (yN Y b27) ∧ (∀ M30 : Mm, M30 = sI M26 b27 (m1 (mI M26 b27) (65 : Int32).toNatClampNeg 4) → (∃ b31 : Nat, mR M30 v0 67 = some b31 ∧ (yK Y b31 = 101 ∧ (vp_in 66 (yN Y b31) ∧ (∀ M34 : Mm, M34 = sI M30 b31 (m1 (mI M30 b31) (66 : Int32).toNatClampNeg v1) → (∃ b35 : Nat, mR M34 v0 67 = some b35 ∧ (yK Y b35 = 101 ∧ (vp_in 67 (yN Y b35) ∧ (∀ M38 : Mm, M38 = sI M34 b35 (m1 (mI M34 b35) (67 : Int32).toNatClampNeg v2) → (∃ b39 : Nat, mR M38 v0 67 = some b39 ∧ (yK Y b39 = 101 ∧ (vp_in 68 (yN Y b39) ∧ (∀ M42 : Mm, M42 = sI M38 b39 (m1 (mI M38 b39) (68 : Int32).toNatClampNeg 16) → (∃ b43 : Nat, mR M42 v0 67 = some b43 ∧ (f_X12_set Y b43 69 v3 8 M42 (fun M44 => (∃ b45 : Nat, mR M44 v0 67 = some b45 ∧ (∃ b46 : Nat, mR M44 v0 67 = some b46 ∧ (f_X12_sum Y b46 21 78 M44 (fun r48 M47 => (f_X12_set Y b45 17 r48 4 M47 (fun M49 => (∃ b50 : Nat, mR M49 v0 67 = some b50 ∧ (f_X12_append Y v0 (mI M49 v0 1) b50 78 M49 (fun r52 M51 => (Kn r52 M51)))))))))))))))))))))))))))))))))))))))))))))))))))))))))))) ∧ (¬ (78 ≤ x1) → (yK Y v0 = 12 ∧ (∃ b54 : Nat, mR M2 v0 67 = some b54 ∧ (yK Y b54 = 101 ∧ (vp_in x1 (yN Y b54) ∧ (∀ M57 : Mm, M57 = sI M2 b54 (m1 (mI M2 b54) x1.toNatClampNeg 0) → (∀ x58 : Int32, x58 = x1 + 1 → (again3 x58 M57))))))))
def f_X12_notes (Y : Ly) (v0 : Nat) (v1 : Int32) (v2 : Int32) (v3 : Int64) (M : Mm) (Kn : Int32 → Mm → Prop) : Prop :=
  ∃ n, LOOP2 (L_X12_notes_3 Y v0 v1 v2 v3 Kn) n 0 M
set_option maxHeartbeats 4000000 in
set_option maxRecDepth 100000 in
theorem m_X12_notes (l : Launch) (D : va_G) (cy : Cy) (tq sz : Nat) (Y : Ly) (v0 : Nat) (v1 : Int32) (v2 : Int32) (v3 : Int64) (M : Mm) (Kn : Int32 → Mm → Prop) : Met l yX12_notes (Cond.code yX12_notes cX12_notes 6 (some .int) :: TT) rm_X12_notes (PcG D cy tq [.ref v0, .int v1, .int v2, .long v3] sz Y M (f_X12_notes Y v0 v1 v2 v3 M Kn)) (va_Qi Kn (BG D cy (Am Y sz) Y) (Am Y sz)) 0 0 (Am Y sz) := by
  refine Met.ofW (cc := cX12_notes) (maxL := 6) (ret := (some .int)) (by decide) rfl ?_
  intro p e s m args below meth c s₁ B hml hv
  obtain ⟨hargs, hsz, hW, hK, hC, hf⟩ := hv
  subst hsz
  have hx := B.exec
  have hb := B.bytes
  have hr := B.returns
  have hts : ∀ w ∈ TT, w.before args s = true := fun w h => atoms_spec (ws := Cond.code yX12_notes cX12_notes 6 (some .int) :: TT) B.pre w (List.mem_cons_of_mem _ h)
  have hown : s.vm.findClass RX12 = some m.cls := findClass_of_methodNamed B.named
  have hlocks := B.notSynchronized
  replace hW := Wd_self (sz := s.heap.size) hW
  generalize hAe : Am Y s.heap.size = A at hW hC ⊢
  have hA : ∀ q : Nat, s.heap.size ≤ q → A q := fun q h => by rw [← hAe]; exact Or.inr h
  clear hAe
  have hS : va_S A s.heap s.heap [] := va_S.rf
  obtain ⟨ls, hE, hl⟩ := gm_entry m [.ref v0, .int v1, .int v2, .long v3] (n := 6) hargs (Nat.le_of_ble_eq_true rfl)
  rw [hE]
  have hl : lv_has ls 6 [(0, .ref v0), (1, .int v1), (2, .int v2), (3, .long v3)] := hl
  show W p l e rm_X12_notes s m args below meth c s.heap [] 0 0 (MQ below (va_Qi Kn (BG D cy A Y) A) args s 0 0 A) (F0 m 0 ls [])
  unfold f_X12_notes at hf
  refine lv_iconst (v := 0) hx hb dX12_notes_0 (by decide +kernel) ?_
  refine lv_istore (lv' := [(5, .int 0), (0, .ref v0), (1, .int v1), (2, .int v2), (3, .long v3)]) hx hb dX12_notes_1 hl (by decide) rfl (fun ls hl => ?_)
  obtain ⟨n3, hf⟩ := hf
  have lp3 : ∀ (n3 : Nat) (x1 : Int32) (M2 : Mm) (H : Heap) (locs : List Loc) (ls : Array Slot), lv_has ls 6 [(0, .ref v0), (1, .int v1), (2, .int v2), (3, .long v3), (5, .int x1)] → Wd D cy A Y M2 H → va_S A s.heap H locs → LOOP2 (L_X12_notes_3 Y v0 v1 v2 v3 Kn) n3 x1 M2 → W p l e rm_X12_notes s m args below meth c H locs 0 0 (MQ below (va_Qi Kn (BG D cy A Y) A) args s 0 0 A) (F0 m 3 ls []) := by
    intro n3
    induction n3 with
    | zero => intro x1 M2 H locs ls hl hW hS hf; exact hf.elim
    | succ n3 ih3 =>
      intro x1 M2 H locs ls hl hW hS hf
      replace hf : L_X12_notes_3 Y v0 v1 v2 v3 Kn x1 M2 (LOOP2 (L_X12_notes_3 Y v0 v1 v2 v3 Kn) n3) := hf
      unfold L_X12_notes_3 at hf
      refine lv_iload hx hb dX12_notes_3 (lv_at hl 4 rfl) ?_
      refine lv_bipush (v := 78) hx hb dX12_notes_5 (by decide +kernel) ?_
      refine lv_icmp_ge (tgt := 24) hx hb dX12_notes_7 (by decide) (fun c3 => ?_) (fun c3 => ?_)
      · replace hf := hf.1 c3
        refine lv_aload_n hx hb dX12_notes_24 rfl (lv_at hl 0 rfl) ?_
        obtain ⟨k4, hf⟩ := hf
        obtain ⟨b5, hb5, hf⟩ := hf
        refine gm_getR (C := RX12) (T := TX12) (N := 68) (j := 67) hx hb hts inT_12 hown hK hW k4 (by decide) rfl (by decide) rfl (hts _ kw_1383) rfl dX12_notes_25 hb5 ?_
        refine lv_bipush (v := 8) hx hb dX12_notes_28 (by decide +kernel) ?_
        refine lv_ldc2 (v := 66) hx hb hown (hts _ kw_1714) dX12_notes_30 ?_
        refine lv_iconst (v := 4) hx hb dX12_notes_33 (by decide +kernel) ?_
        refine gm_cv (va_runS (As := [.ref b5, .int 8, .long 66, .int 4]) (rest := []) ⟨hx, hb, hml, hown, hts⟩ (m_X12_set l D cy tq _ Y _ _ _ _ _ _) (va_cwS 4 hts (good_S kw_1510 kw_1511 kw_12 kw_1512) rfl rfl rfl (by decide +kernel) ⟨Nat.le_of_ble_eq_true rfl, Nat.le_of_ble_eq_true rfl⟩) (gm_preS hK hW hC hS hA hf) rfl rfl hl.1 rfl (lv_room (Nat.le_of_ble_eq_true rfl)) dX12_notes_34 ⟨Nat.le_of_ble_eq_true rfl, Nat.le_of_ble_eq_true rfl⟩) hW hS hA (fun M6 H locs hW hS hf => ?_)
        refine lv_aload_n hx hb dX12_notes_37 rfl (lv_at hl 0 rfl) ?_
        obtain ⟨b7, hb7, hf⟩ := hf
        refine gm_getR (C := RX12) (T := TX12) (N := 68) (j := 67) hx hb hts inT_12 hown hK hW k4 (by decide) rfl (by decide) rfl (hts _ kw_1383) rfl dX12_notes_38 hb7 ?_
        refine lv_bipush (v := 16) hx hb dX12_notes_41 (by decide +kernel) ?_
        refine lv_iconst (v := 2) hx hb dX12_notes_43 (by decide +kernel) ?_
        obtain ⟨k8, hf⟩ := hf
        obtain ⟨h9, hf⟩ := hf
        refine gm_iast hx hb hK hW hS k8 h9 dX12_notes_44 (fun H locs M10 eM10 hW hS => ?_)
        replace hf := hf M10 eM10
        refine lv_aload_n hx hb dX12_notes_45 rfl (lv_at hl 0 rfl) ?_
        obtain ⟨b11, hb11, hf⟩ := hf
        refine gm_getR (C := RX12) (T := TX12) (N := 68) (j := 67) hx hb hts inT_12 hown hK hW k4 (by decide) rfl (by decide) rfl (hts _ kw_1383) rfl dX12_notes_46 hb11 ?_
        refine lv_bipush (v := 27) hx hb dX12_notes_49 (by decide +kernel) ?_
        refine lv_aload_n hx hb dX12_notes_51 rfl (lv_at hl 0 rfl) ?_
        refine gm_getI (C := RX12) (T := TX12) (N := 68) (j := 4) hx hb hts inT_12 hown hK hW k4 (by decide) rfl (by decide) rfl (hts _ kw_1320) rfl dX12_notes_52 ?_
        refine lv_i2l hx hb dX12_notes_55 rfl ?_
        refine lv_bipush (v := 8) hx hb dX12_notes_56 (by decide +kernel) ?_
        refine gm_cv (va_runS (As := [.ref b11, .int 27, .long ((mI M10 v0 4).toInt64), .int 8]) (rest := []) ⟨hx, hb, hml, hown, hts⟩ (m_X12_set l D cy tq _ Y _ _ _ _ _ _) (va_cwS 4 hts (good_S kw_1510 kw_1511 kw_12 kw_1512) rfl rfl rfl (by decide +kernel) ⟨Nat.le_of_ble_eq_true rfl, Nat.le_of_ble_eq_true rfl⟩) (gm_preS hK hW hC hS hA hf) rfl rfl hl.1 rfl (lv_room (Nat.le_of_ble_eq_true rfl)) dX12_notes_58 ⟨Nat.le_of_ble_eq_true rfl, Nat.le_of_ble_eq_true rfl⟩) hW hS hA (fun M12 H locs hW hS hf => ?_)
        refine lv_aload_n hx hb dX12_notes_61 rfl (lv_at hl 0 rfl) ?_
        obtain ⟨b13, hb13, hf⟩ := hf
        refine gm_getR (C := RX12) (T := TX12) (N := 68) (j := 67) hx hb hts inT_12 hown hK hW k4 (by decide) rfl (by decide) rfl (hts _ kw_1383) rfl dX12_notes_62 hb13 ?_
        refine lv_bipush (v := 35) hx hb dX12_notes_65 (by decide +kernel) ?_
        refine lv_aload_n hx hb dX12_notes_67 rfl (lv_at hl 0 rfl) ?_
        refine gm_getI (C := RX12) (T := TX12) (N := 68) (j := 4) hx hb hts inT_12 hown hK hW k4 (by decide) rfl (by decide) rfl (hts _ kw_1320) rfl dX12_notes_68 ?_
        refine lv_i2l hx hb dX12_notes_71 rfl ?_
        refine lv_bipush (v := 8) hx hb dX12_notes_72 (by decide +kernel) ?_
        refine gm_cv (va_runS (As := [.ref b13, .int 35, .long ((mI M12 v0 4).toInt64), .int 8]) (rest := []) ⟨hx, hb, hml, hown, hts⟩ (m_X12_set l D cy tq _ Y _ _ _ _ _ _) (va_cwS 4 hts (good_S kw_1510 kw_1511 kw_12 kw_1512) rfl rfl rfl (by decide +kernel) ⟨Nat.le_of_ble_eq_true rfl, Nat.le_of_ble_eq_true rfl⟩) (gm_preS hK hW hC hS hA hf) rfl rfl hl.1 rfl (lv_room (Nat.le_of_ble_eq_true rfl)) dX12_notes_74 ⟨Nat.le_of_ble_eq_true rfl, Nat.le_of_ble_eq_true rfl⟩) hW hS hA (fun M14 H locs hW hS hf => ?_)
        refine lv_aload_n hx hb dX12_notes_77 rfl (lv_at hl 0 rfl) ?_
        obtain ⟨b15, hb15, hf⟩ := hf
        refine gm_getR (C := RX12) (T := TX12) (N := 68) (j := 67) hx hb hts inT_12 hown hK hW k4 (by decide) rfl (by decide) rfl (hts _ kw_1383) rfl dX12_notes_78 hb15 ?_
        refine lv_bipush (v := 43) hx hb dX12_notes_81 (by decide +kernel) ?_
        refine lv_ldc2 (v := -1) hx hb hown (hts _ kw_1523) dX12_notes_83 ?_
        refine lv_bipush (v := 8) hx hb dX12_notes_86 (by decide +kernel) ?_
        refine gm_cv (va_runS (As := [.ref b15, .int 43, .long (-1), .int 8]) (rest := []) ⟨hx, hb, hml, hown, hts⟩ (m_X12_set l D cy tq _ Y _ _ _ _ _ _) (va_cwS 4 hts (good_S kw_1510 kw_1511 kw_12 kw_1512) rfl rfl rfl (by decide +kernel) ⟨Nat.le_of_ble_eq_true rfl, Nat.le_of_ble_eq_true rfl⟩) (gm_preS hK hW hC hS hA hf) rfl rfl hl.1 rfl (lv_room (Nat.le_of_ble_eq_true rfl)) dX12_notes_88 ⟨Nat.le_of_ble_eq_true rfl, Nat.le_of_ble_eq_true rfl⟩) hW hS hA (fun M16 H locs hW hS hf => ?_)
        refine lv_aload_n hx hb dX12_notes_91 rfl (lv_at hl 0 rfl) ?_
        obtain ⟨b17, hb17, hf⟩ := hf
        refine gm_getR (C := RX12) (T := TX12) (N := 68) (j := 67) hx hb hts inT_12 hown hK hW k4 (by decide) rfl (by decide) rfl (hts _ kw_1383) rfl dX12_notes_92 hb17 ?_
        refine lv_bipush (v := 51) hx hb dX12_notes_95 (by decide +kernel) ?_
        refine lv_ldc2 (v := -1) hx hb hown (hts _ kw_1523) dX12_notes_97 ?_
        refine lv_iconst (v := 2) hx hb dX12_notes_100 (by decide +kernel) ?_
        refine gm_cv (va_runS (As := [.ref b17, .int 51, .long (-1), .int 2]) (rest := []) ⟨hx, hb, hml, hown, hts⟩ (m_X12_set l D cy tq _ Y _ _ _ _ _ _) (va_cwS 4 hts (good_S kw_1510 kw_1511 kw_12 kw_1512) rfl rfl rfl (by decide +kernel) ⟨Nat.le_of_ble_eq_true rfl, Nat.le_of_ble_eq_true rfl⟩) (gm_preS hK hW hC hS hA hf) rfl rfl hl.1 rfl (lv_room (Nat.le_of_ble_eq_true rfl)) dX12_notes_101 ⟨Nat.le_of_ble_eq_true rfl, Nat.le_of_ble_eq_true rfl⟩) hW hS hA (fun M18 H locs hW hS hf => ?_)
        refine lv_aload_n hx hb dX12_notes_104 rfl (lv_at hl 0 rfl) ?_
        obtain ⟨b19, hb19, hf⟩ := hf
        refine gm_getR (C := RX12) (T := TX12) (N := 68) (j := 67) hx hb hts inT_12 hown hK hW k4 (by decide) rfl (by decide) rfl (hts _ kw_1383) rfl dX12_notes_105 hb19 ?_
        refine lv_bipush (v := 53) hx hb dX12_notes_108 (by decide +kernel) ?_
        refine lv_ldc2 (v := -1) hx hb hown (hts _ kw_1523) dX12_notes_110 ?_
        refine lv_iconst (v := 4) hx hb dX12_notes_113 (by decide +kernel) ?_
        refine gm_cv (va_runS (As := [.ref b19, .int 53, .long (-1), .int 4]) (rest := []) ⟨hx, hb, hml, hown, hts⟩ (m_X12_set l D cy tq _ Y _ _ _ _ _ _) (va_cwS 4 hts (good_S kw_1510 kw_1511 kw_12 kw_1512) rfl rfl rfl (by decide +kernel) ⟨Nat.le_of_ble_eq_true rfl, Nat.le_of_ble_eq_true rfl⟩) (gm_preS hK hW hC hS hA hf) rfl rfl hl.1 rfl (lv_room (Nat.le_of_ble_eq_true rfl)) dX12_notes_114 ⟨Nat.le_of_ble_eq_true rfl, Nat.le_of_ble_eq_true rfl⟩) hW hS hA (fun M20 H locs hW hS hf => ?_)
        refine lv_aload_n hx hb dX12_notes_117 rfl (lv_at hl 0 rfl) ?_
        obtain ⟨b21, hb21, hf⟩ := hf
        refine gm_getR (C := RX12) (T := TX12) (N := 68) (j := 67) hx hb hts inT_12 hown hK hW k4 (by decide) rfl (by decide) rfl (hts _ kw_1383) rfl dX12_notes_118 hb21 ?_
        refine lv_bipush (v := 57) hx hb dX12_notes_121 (by decide +kernel) ?_
        refine lv_lconst (v := 1) hx hb dX12_notes_123 (by decide) ?_
        refine lv_iconst (v := 4) hx hb dX12_notes_124 (by decide +kernel) ?_
        refine gm_cv (va_runS (As := [.ref b21, .int 57, .long 1, .int 4]) (rest := []) ⟨hx, hb, hml, hown, hts⟩ (m_X12_set l D cy tq _ Y _ _ _ _ _ _) (va_cwS 4 hts (good_S kw_1510 kw_1511 kw_12 kw_1512) rfl rfl rfl (by decide +kernel) ⟨Nat.le_of_ble_eq_true rfl, Nat.le_of_ble_eq_true rfl⟩) (gm_preS hK hW hC hS hA hf) rfl rfl hl.1 rfl (lv_room (Nat.le_of_ble_eq_true rfl)) dX12_notes_125 ⟨Nat.le_of_ble_eq_true rfl, Nat.le_of_ble_eq_true rfl⟩) hW hS hA (fun M22 H locs hW hS hf => ?_)
        refine lv_aload_n hx hb dX12_notes_128 rfl (lv_at hl 0 rfl) ?_
        obtain ⟨b23, hb23, hf⟩ := hf
        refine gm_getR (C := RX12) (T := TX12) (N := 68) (j := 67) hx hb hts inT_12 hown hK hW k4 (by decide) rfl (by decide) rfl (hts _ kw_1383) rfl dX12_notes_129 hb23 ?_
        refine lv_bipush (v := 61) hx hb dX12_notes_132 (by decide +kernel) ?_
        refine lv_bipush (v := 32) hx hb dX12_notes_134 (by decide +kernel) ?_
        obtain ⟨k24, hf⟩ := hf
        obtain ⟨h25, hf⟩ := hf
        refine gm_iast hx hb hK hW hS k24 h25 dX12_notes_136 (fun H locs M26 eM26 hW hS => ?_)
        replace hf := hf M26 eM26
        refine lv_aload_n hx hb dX12_notes_137 rfl (lv_at hl 0 rfl) ?_
        obtain ⟨b27, hb27, hf⟩ := hf
        refine gm_getR (C := RX12) (T := TX12) (N := 68) (j := 67) hx hb hts inT_12 hown hK hW k4 (by decide) rfl (by decide) rfl (hts _ kw_1383) rfl dX12_notes_138 hb27 ?_
        refine lv_bipush (v := 65) hx hb dX12_notes_141 (by decide +kernel) ?_
        refine lv_iconst (v := 4) hx hb dX12_notes_143 (by decide +kernel) ?_
        obtain ⟨k28, hf⟩ := hf
        obtain ⟨h29, hf⟩ := hf
        refine gm_iast hx hb hK hW hS k28 h29 dX12_notes_144 (fun H locs M30 eM30 hW hS => ?_)
        replace hf := hf M30 eM30
        refine lv_aload_n hx hb dX12_notes_145 rfl (lv_at hl 0 rfl) ?_
        obtain ⟨b31, hb31, hf⟩ := hf
        refine gm_getR (C := RX12) (T := TX12) (N := 68) (j := 67) hx hb hts inT_12 hown hK hW k4 (by decide) rfl (by decide) rfl (hts _ kw_1383) rfl dX12_notes_146 hb31 ?_
        refine lv_bipush (v := 66) hx hb dX12_notes_149 (by decide +kernel) ?_
        refine lv_iload_n hx hb dX12_notes_151 rfl (lv_at hl 1 rfl) ?_
        obtain ⟨k32, hf⟩ := hf
        obtain ⟨h33, hf⟩ := hf
        refine gm_iast hx hb hK hW hS k32 h33 dX12_notes_152 (fun H locs M34 eM34 hW hS => ?_)
        replace hf := hf M34 eM34
        refine lv_aload_n hx hb dX12_notes_153 rfl (lv_at hl 0 rfl) ?_
        obtain ⟨b35, hb35, hf⟩ := hf
        refine gm_getR (C := RX12) (T := TX12) (N := 68) (j := 67) hx hb hts inT_12 hown hK hW k4 (by decide) rfl (by decide) rfl (hts _ kw_1383) rfl dX12_notes_154 hb35 ?_
        refine lv_bipush (v := 67) hx hb dX12_notes_157 (by decide +kernel) ?_
        refine lv_iload_n hx hb dX12_notes_159 rfl (lv_at hl 2 rfl) ?_
        obtain ⟨k36, hf⟩ := hf
        obtain ⟨h37, hf⟩ := hf
        refine gm_iast hx hb hK hW hS k36 h37 dX12_notes_160 (fun H locs M38 eM38 hW hS => ?_)
        replace hf := hf M38 eM38
        refine lv_aload_n hx hb dX12_notes_161 rfl (lv_at hl 0 rfl) ?_
        obtain ⟨b39, hb39, hf⟩ := hf
        refine gm_getR (C := RX12) (T := TX12) (N := 68) (j := 67) hx hb hts inT_12 hown hK hW k4 (by decide) rfl (by decide) rfl (hts _ kw_1383) rfl dX12_notes_162 hb39 ?_
        refine lv_bipush (v := 68) hx hb dX12_notes_165 (by decide +kernel) ?_
        refine lv_bipush (v := 16) hx hb dX12_notes_167 (by decide +kernel) ?_
        obtain ⟨k40, hf⟩ := hf
        obtain ⟨h41, hf⟩ := hf
        refine gm_iast hx hb hK hW hS k40 h41 dX12_notes_169 (fun H locs M42 eM42 hW hS => ?_)
        replace hf := hf M42 eM42
        refine lv_aload_n hx hb dX12_notes_170 rfl (lv_at hl 0 rfl) ?_
        obtain ⟨b43, hb43, hf⟩ := hf
        refine gm_getR (C := RX12) (T := TX12) (N := 68) (j := 67) hx hb hts inT_12 hown hK hW k4 (by decide) rfl (by decide) rfl (hts _ kw_1383) rfl dX12_notes_171 hb43 ?_
        refine lv_bipush (v := 69) hx hb dX12_notes_174 (by decide +kernel) ?_
        refine lv_lload_n hx hb dX12_notes_176 rfl (lv_at hl 3 rfl) ?_
        refine lv_bipush (v := 8) hx hb dX12_notes_177 (by decide +kernel) ?_
        refine gm_cv (va_runS (As := [.ref b43, .int 69, .long v3, .int 8]) (rest := []) ⟨hx, hb, hml, hown, hts⟩ (m_X12_set l D cy tq _ Y _ _ _ _ _ _) (va_cwS 4 hts (good_S kw_1510 kw_1511 kw_12 kw_1512) rfl rfl rfl (by decide +kernel) ⟨Nat.le_of_ble_eq_true rfl, Nat.le_of_ble_eq_true rfl⟩) (gm_preS hK hW hC hS hA hf) rfl rfl hl.1 rfl (lv_room (Nat.le_of_ble_eq_true rfl)) dX12_notes_179 ⟨Nat.le_of_ble_eq_true rfl, Nat.le_of_ble_eq_true rfl⟩) hW hS hA (fun M44 H locs hW hS hf => ?_)
        refine lv_aload_n hx hb dX12_notes_182 rfl (lv_at hl 0 rfl) ?_
        obtain ⟨b45, hb45, hf⟩ := hf
        refine gm_getR (C := RX12) (T := TX12) (N := 68) (j := 67) hx hb hts inT_12 hown hK hW k4 (by decide) rfl (by decide) rfl (hts _ kw_1383) rfl dX12_notes_183 hb45 ?_
        refine lv_bipush (v := 17) hx hb dX12_notes_186 (by decide +kernel) ?_
        refine lv_aload_n hx hb dX12_notes_188 rfl (lv_at hl 0 rfl) ?_
        obtain ⟨b46, hb46, hf⟩ := hf
        refine gm_getR (C := RX12) (T := TX12) (N := 68) (j := 67) hx hb hts inT_12 hown hK hW k4 (by decide) rfl (by decide) rfl (hts _ kw_1383) rfl dX12_notes_189 hb46 ?_
        refine lv_bipush (v := 21) hx hb dX12_notes_192 (by decide +kernel) ?_
        refine lv_bipush (v := 78) hx hb dX12_notes_194 (by decide +kernel) ?_
        refine gm_cl (va_runS (As := [.ref b46, .int 21, .int 78]) (rest := [.int 17, .ref b45]) ⟨hx, hb, hml, hown, hts⟩ (m_X12_sum l D cy tq _ Y _ _ _ _ _) (va_cwS 3 hts (good_S kw_1505 kw_1506 kw_12 kw_1507) rfl rfl rfl (by decide +kernel) ⟨Nat.le_of_ble_eq_true rfl, Nat.le_of_ble_eq_true rfl⟩) (gm_preS hK hW hC hS hA hf) rfl rfl hl.1 rfl (lv_room (Nat.le_of_ble_eq_true rfl)) dX12_notes_196 ⟨Nat.le_of_ble_eq_true rfl, Nat.le_of_ble_eq_true rfl⟩) hW hS hA (fun r48 M47 H locs hW hS hf => ?_)
        refine lv_iconst (v := 4) hx hb dX12_notes_199 (by decide +kernel) ?_
        refine gm_cv (va_runS (As := [.ref b45, .int 17, .long r48, .int 4]) (rest := []) ⟨hx, hb, hml, hown, hts⟩ (m_X12_set l D cy tq _ Y _ _ _ _ _ _) (va_cwS 4 hts (good_S kw_1510 kw_1511 kw_12 kw_1512) rfl rfl rfl (by decide +kernel) ⟨Nat.le_of_ble_eq_true rfl, Nat.le_of_ble_eq_true rfl⟩) (gm_preS hK hW hC hS hA hf) rfl rfl hl.1 rfl (lv_room (Nat.le_of_ble_eq_true rfl)) dX12_notes_200 ⟨Nat.le_of_ble_eq_true rfl, Nat.le_of_ble_eq_true rfl⟩) hW hS hA (fun M49 H locs hW hS hf => ?_)
        refine lv_aload_n hx hb dX12_notes_203 rfl (lv_at hl 0 rfl) ?_
        refine lv_aload_n hx hb dX12_notes_204 rfl (lv_at hl 0 rfl) ?_
        refine gm_getI (C := RX12) (T := TX12) (N := 68) (j := 1) hx hb hts inT_12 hown hK hW k4 (by decide) rfl (by decide) rfl (hts _ kw_1317) rfl dX12_notes_205 ?_
        refine lv_aload_n hx hb dX12_notes_208 rfl (lv_at hl 0 rfl) ?_
        obtain ⟨b50, hb50, hf⟩ := hf
        refine gm_getR (C := RX12) (T := TX12) (N := 68) (j := 67) hx hb hts inT_12 hown hK hW k4 (by decide) rfl (by decide) rfl (hts _ kw_1383) rfl dX12_notes_209 hb50 ?_
        refine lv_bipush (v := 78) hx hb dX12_notes_212 (by decide +kernel) ?_
        refine gm_ci (va_runV (As := [.int (mI M49 v0 1), .ref b50, .int 78]) (rest := []) ⟨hx, hb, hml, hown, hts⟩ (m_X12_append l D cy tq _ Y _ _ _ _ _ _) (cwV 3 hts (good_V kw_1596 kw_1597 kw_1846 kw_12 kw_1598) rfl rfl rfl (by decide +kernel) ⟨Nat.le_of_ble_eq_true rfl, Nat.le_of_ble_eq_true rfl⟩) (gm_preV hK hW hC hS hA k4 (by decide) (q := (RX12, TX12, 68)) rfl rfl hf) rfl rfl hl.1 rfl (lv_room (Nat.le_of_ble_eq_true rfl)) dX12_notes_214 ⟨Nat.le_of_ble_eq_true rfl, Nat.le_of_ble_eq_true rfl⟩) hW hS hA (fun r52 M51 H locs hW hS hf => ?_)
        exact gm_iret hx hb hr hlocks hW hS hf dX12_notes_217
      · replace hf := hf.2 c3
        refine lv_aload_n hx hb dX12_notes_10 rfl (lv_at hl 0 rfl) ?_
        obtain ⟨k53, hf⟩ := hf
        obtain ⟨b54, hb54, hf⟩ := hf
        refine gm_getR (C := RX12) (T := TX12) (N := 68) (j := 67) hx hb hts inT_12 hown hK hW k53 (by decide) rfl (by decide) rfl (hts _ kw_1383) rfl dX12_notes_11 hb54 ?_
        refine lv_iload hx hb dX12_notes_14 (lv_at hl 4 rfl) ?_
        refine lv_iconst (v := 0) hx hb dX12_notes_16 (by decide +kernel) ?_
        obtain ⟨k55, hf⟩ := hf
        obtain ⟨h56, hf⟩ := hf
        refine gm_iast hx hb hK hW hS k55 h56 dX12_notes_17 (fun H locs M57 eM57 hW hS => ?_)
        replace hf := hf M57 eM57
        obtain ⟨x58, ex58⟩ : ∃ y : Int32, y = x1 + 1 := ⟨_, rfl⟩
        replace hf := hf x58 ex58
        refine lv_iinc (v := x58) (lv' := [(5, .int x58), (0, .ref v0), (1, .int v1), (2, .int v2), (3, .long v3)]) hx hb dX12_notes_18 hl (k := 4) rfl (by rw [ex58]; rfl) (by decide) rfl (fun ls hl => ?_)
        refine lv_goto (tgt := 3) hx hb dX12_notes_21 (by decide) ?_
        exact ih3 _ _ _ _ _ (lv_sub hl [1, 2, 3, 4, 0] rfl) hW hS hf
  exact lp3 n3 _ _ _ _ _ (lv_sub hl [1, 2, 3, 4, 0] rfl) hW hS hf

abbrev rm_X12_noted : Room := { frames := 5, cells := 0, slots := 0, locals := 153 }
def f_X12_noted_90 (Y : Ly) (x3 : Int32) (again7 : Int32 → Mm → Prop) (M9 : Mm) : Prop :=
  ∀ x10 : Int32, x10 = x3 + (-1) → (again7 x10 M9)
def L_X12_noted_7 (Y : Ly) (v0 : Nat) (v1 : Int32) (v2 : Int32) (Kn : Int64 → Mm → Prop) (x3 : Int32) (M4 : Mm) (again7 : Int32 → Mm → Prop) : Prop :=
  (x3 < 0 → (Kn (-1) M4)) ∧ (¬ (x3 < 0) → (∃ b6 : Nat, mR M4 v0 19 = some b6 ∧ (yK Y b6 = 101 ∧ (vp_in x3 (yN Y b6) ∧ ((¬ (mI M4 b6 x3.toNatClampNeg) = (mI M4 v0 1) → (f_X12_noted_90 Y x3 again7 M4)) ∧ ((mI M4 b6 x3.toNatClampNeg) = (mI M4 v0 1) → (f_X12_countOf Y v0 x3 M4 (fun r13 M12 => ((r13 ≤ 0 → (f_X12_noted_90 Y x3 again7 M12)) ∧ (¬ (r13 ≤ 0) → (f_X12_readsBatch Y v0 x3 M12 (fun M15 => (f_X12_firstTime Y v0 x3 M15 (fun r17 M16 => (f_X12_readRecord Y v0 r17 M16 (fun r19 M18 => (∃ b20 : Nat, mR M18 v0 23 = some b20 ∧ (yK Y b20 = 101 ∧ (vp_in (mI M18 v0 49) (yN Y b20) ∧ ((¬ (mI M18 b20 (mI M18 v0 49).toNatClampNeg) = v1 → (f_X12_noted_90 Y x3 again7 M18)) ∧ ((mI M18 b20 (mI M18 v0 49).toNatClampNeg) = v1 → (∃ b24 : Nat, mR M18 v0 23 = some b24 ∧ (yK Y b24 = 101 ∧ (vp_in ((mI M18 v0 49) + 1) (yN Y b24) ∧ ((¬ (mI M18 b24 ((mI M18 v0 49) + 1).toNatClampNeg) = v2 → (f_X12_noted_90 Y x3 again7 M18)) ∧ ((mI M18 b24 ((mI M18 v0 49) + 1).toNatClampNeg) = v2 → (∃ b28 : Nat, mR M18 v0 23 = some b28 ∧ (f_X12_number Y b28 (mI M18 v0 51) 8 M18 (fun r30 M29 => (Kn r30 M29))))))))))))))))))))))))))))))
def f_X12_noted (Y : Ly) (v0 : Nat) (v1 : Int32) (v2 : Int32) (M : Mm) (Kn : Int64 → Mm → Prop) : Prop :=
  yK Y v0 = 12 ∧ (∀ x2 : Int32, x2 = (mI M v0 18) - 1 → (∃ n, LOOP2 (L_X12_noted_7 Y v0 v1 v2 Kn) n x2 M))
set_option maxHeartbeats 4000000 in
set_option maxRecDepth 100000 in
theorem m_X12_noted (l : Launch) (D : va_G) (cy : Cy) (tq sz : Nat) (Y : Ly) (v0 : Nat) (v1 : Int32) (v2 : Int32) (M : Mm) (Kn : Int64 → Mm → Prop) : Met l yX12_noted (Cond.code yX12_noted cX12_noted 5 (some .long) :: TT) rm_X12_noted (PcG D cy tq [.ref v0, .int v1, .int v2] sz Y M (f_X12_noted Y v0 v1 v2 M Kn)) (va_Ql Kn (BG D cy (Am Y sz) Y) (Am Y sz)) 0 0 (Am Y sz) := by
  refine Met.ofW (cc := cX12_noted) (maxL := 5) (ret := (some .long)) (by decide) rfl ?_
  intro p e s m args below meth c s₁ B hml hv
  obtain ⟨hargs, hsz, hW, hK, hC, hf⟩ := hv
  subst hsz
  have hx := B.exec
  have hb := B.bytes
  have hr := B.returns
  have hts : ∀ w ∈ TT, w.before args s = true := fun w h => atoms_spec (ws := Cond.code yX12_noted cX12_noted 5 (some .long) :: TT) B.pre w (List.mem_cons_of_mem _ h)
  have hown : s.vm.findClass RX12 = some m.cls := findClass_of_methodNamed B.named
  have hlocks := B.notSynchronized
  replace hW := Wd_self (sz := s.heap.size) hW
  generalize hAe : Am Y s.heap.size = A at hW hC ⊢
  have hA : ∀ q : Nat, s.heap.size ≤ q → A q := fun q h => by rw [← hAe]; exact Or.inr h
  clear hAe
  have hS : va_S A s.heap s.heap [] := va_S.rf
  obtain ⟨ls, hE, hl⟩ := gm_entry m [.ref v0, .int v1, .int v2] (n := 5) hargs (Nat.le_of_ble_eq_true rfl)
  rw [hE]
  have hl : lv_has ls 5 [(0, .ref v0), (1, .int v1), (2, .int v2)] := hl
  show W p l e rm_X12_noted s m args below meth c s.heap [] 0 0 (MQ below (va_Ql Kn (BG D cy A Y) A) args s 0 0 A) (F0 m 0 ls [])
  unfold f_X12_noted at hf
  refine lv_aload_n hx hb dX12_noted_0 rfl (lv_at hl 0 rfl) ?_
  obtain ⟨k1, hf⟩ := hf
  refine gm_getI (C := RX12) (T := TX12) (N := 68) (j := 18) hx hb hts inT_12 hown hK hW k1 (by decide) rfl (by decide) rfl (hts _ kw_1334) rfl dX12_noted_1 ?_
  refine lv_iconst (v := 1) hx hb dX12_noted_4 (by decide +kernel) ?_
  refine lv_isub hx hb dX12_noted_5 ?_
  refine lv_topi (fun x2 ex2 => ?_)
  replace hf := hf x2 ex2
  refine lv_istore_n (lv' := [(3, .int x2), (0, .ref v0), (1, .int v1), (2, .int v2)]) hx hb dX12_noted_6 rfl hl (by decide) rfl (fun ls hl => ?_)
  obtain ⟨n7, hf⟩ := hf
  have lp7 : ∀ (n7 : Nat) (x3 : Int32) (M4 : Mm) (H : Heap) (locs : List Loc) (ls : Array Slot), lv_has ls 5 [(0, .ref v0), (1, .int v1), (2, .int v2), (3, .int x3)] → Wd D cy A Y M4 H → va_S A s.heap H locs → LOOP2 (L_X12_noted_7 Y v0 v1 v2 Kn) n7 x3 M4 → W p l e rm_X12_noted s m args below meth c H locs 0 0 (MQ below (va_Ql Kn (BG D cy A Y) A) args s 0 0 A) (F0 m 7 ls []) := by
    intro n7
    induction n7 with
    | zero => intro x3 M4 H locs ls hl hW hS hf; exact hf.elim
    | succ n7 ih7 =>
      intro x3 M4 H locs ls hl hW hS hf
      replace hf : L_X12_noted_7 Y v0 v1 v2 Kn x3 M4 (LOOP2 (L_X12_noted_7 Y v0 v1 v2 Kn) n7) := hf
      unfold L_X12_noted_7 at hf
      refine lv_iload_n hx hb dX12_noted_7 rfl (lv_at hl 3 rfl) ?_
      refine lv_if_lt (tgt := 96) hx hb dX12_noted_8 (by decide) (fun c5 => ?_) (fun c5 => ?_)
      · replace hf := hf.1 c5
        refine lv_ldc2 (v := -1) hx hb hown (hts _ kw_1523) dX12_noted_96 ?_
        exact gm_lret hx hb hr hlocks hW hS hf dX12_noted_99
      · replace hf := hf.2 c5
        refine lv_aload_n hx hb dX12_noted_11 rfl (lv_at hl 0 rfl) ?_
        obtain ⟨b6, hb6, hf⟩ := hf
        refine gm_getR (C := RX12) (T := TX12) (N := 68) (j := 19) hx hb hts inT_12 hown hK hW k1 (by decide) rfl (by decide) rfl (hts _ kw_1335) rfl dX12_noted_12 hb6 ?_
        refine lv_iload_n hx hb dX12_noted_15 rfl (lv_at hl 3 rfl) ?_
        obtain ⟨k7, hf⟩ := hf
        obtain ⟨h8, hf⟩ := hf
        refine gm_iald hx hb hK hW k7 h8 dX12_noted_16 ?_
        refine lv_aload_n hx hb dX12_noted_17 rfl (lv_at hl 0 rfl) ?_
        refine gm_getI (C := RX12) (T := TX12) (N := 68) (j := 1) hx hb hts inT_12 hown hK hW k1 (by decide) rfl (by decide) rfl (hts _ kw_1317) rfl dX12_noted_18 ?_
        have j90 : ∀ (M9 : Mm) (H : Heap) (locs : List Loc) (ls : Array Slot), lv_has ls 5 [(0, .ref v0), (1, .int v1), (2, .int v2), (3, .int x3)] → Wd D cy A Y M9 H → va_S A s.heap H locs → f_X12_noted_90 Y x3 (LOOP2 (L_X12_noted_7 Y v0 v1 v2 Kn) n7) M9 → W p l e rm_X12_noted s m args below meth c H locs 0 0 (MQ below (va_Ql Kn (BG D cy A Y) A) args s 0 0 A) (F0 m 90 ls []) := by
          intro M9 H locs ls hl hW hS hf
          unfold f_X12_noted_90 at hf
          obtain ⟨x10, ex10⟩ : ∃ y : Int32, y = x3 + (-1) := ⟨_, rfl⟩
          replace hf := hf x10 ex10
          refine lv_iinc (v := x10) (lv' := [(3, .int x10), (0, .ref v0), (1, .int v1), (2, .int v2)]) hx hb dX12_noted_90 hl (k := 3) rfl (by rw [ex10]; rfl) (by decide) rfl (fun ls hl => ?_)
          refine lv_goto (tgt := 7) hx hb dX12_noted_93 (by decide) ?_
          exact ih7 _ _ _ _ _ (lv_sub hl [1, 2, 3, 0] rfl) hW hS hf
        refine lv_icmp_ne (tgt := 90) hx hb dX12_noted_21 (by decide) (fun c11 => ?_) (fun c11 => ?_)
        · replace hf := hf.1 c11
          exact j90 _ _ _ _ (lv_sub hl [0, 1, 2, 3] rfl) hW hS hf
        · replace hf := hf.2 c11
          refine lv_aload_n hx hb dX12_noted_24 rfl (lv_at hl 0 rfl) ?_
          refine lv_iload_n hx hb dX12_noted_25 rfl (lv_at hl 3 rfl) ?_
          refine gm_ci (va_runV (As := [.int x3]) (rest := []) ⟨hx, hb, hml, hown, hts⟩ (m_X12_countOf l D cy tq _ Y _ _ _ _) (cwV 1 hts (good_V kw_1615 kw_1616 kw_1851 kw_12 kw_1617) rfl rfl rfl (by decide +kernel) ⟨Nat.le_of_ble_eq_true rfl, Nat.le_of_ble_eq_true rfl⟩) (gm_preV hK hW hC hS hA k1 (by decide) (q := (RX12, TX12, 68)) rfl rfl hf) rfl rfl hl.1 rfl (lv_room (Nat.le_of_ble_eq_true rfl)) dX12_noted_26 ⟨Nat.le_of_ble_eq_true rfl, Nat.le_of_ble_eq_true rfl⟩) hW hS hA (fun r13 M12 H locs hW hS hf => ?_)
          refine lv_if_le (tgt := 90) hx hb dX12_noted_29 (by decide) (fun c14 => ?_) (fun c14 => ?_)
          · replace hf := hf.1 c14
            exact j90 _ _ _ _ (lv_sub hl [0, 1, 2, 3] rfl) hW hS hf
          · replace hf := hf.2 c14
            refine lv_aload_n hx hb dX12_noted_32 rfl (lv_at hl 0 rfl) ?_
            refine lv_iload_n hx hb dX12_noted_33 rfl (lv_at hl 3 rfl) ?_
            refine gm_cv (va_runV (As := [.int x3]) (rest := []) ⟨hx, hb, hml, hown, hts⟩ (m_X12_readsBatch l D cy tq _ Y _ _ _ _) (cwV 1 hts (good_V kw_1633 kw_1634 kw_1853 kw_12 kw_1635) rfl rfl rfl (by decide +kernel) ⟨Nat.le_of_ble_eq_true rfl, Nat.le_of_ble_eq_true rfl⟩) (gm_preV hK hW hC hS hA k1 (by decide) (q := (RX12, TX12, 68)) rfl rfl hf) rfl rfl hl.1 rfl (lv_room (Nat.le_of_ble_eq_true rfl)) dX12_noted_34 ⟨Nat.le_of_ble_eq_true rfl, Nat.le_of_ble_eq_true rfl⟩) hW hS hA (fun M15 H locs hW hS hf => ?_)
            refine lv_aload_n hx hb dX12_noted_37 rfl (lv_at hl 0 rfl) ?_
            refine lv_aload_n hx hb dX12_noted_38 rfl (lv_at hl 0 rfl) ?_
            refine lv_iload_n hx hb dX12_noted_39 rfl (lv_at hl 3 rfl) ?_
            refine gm_cl (va_runV (As := [.int x3]) (rest := [.ref v0]) ⟨hx, hb, hml, hown, hts⟩ (m_X12_firstTime l D cy tq _ Y _ _ _ _) (cwV 1 hts (good_V kw_1636 kw_1637 kw_1854 kw_12 kw_1638) rfl rfl rfl (by decide +kernel) ⟨Nat.le_of_ble_eq_true rfl, Nat.le_of_ble_eq_true rfl⟩) (gm_preV hK hW hC hS hA k1 (by decide) (q := (RX12, TX12, 68)) rfl rfl hf) rfl rfl hl.1 rfl (lv_room (Nat.le_of_ble_eq_true rfl)) dX12_noted_40 ⟨Nat.le_of_ble_eq_true rfl, Nat.le_of_ble_eq_true rfl⟩) hW hS hA (fun r17 M16 H locs hW hS hf => ?_)
            refine gm_ci (va_runV (As := [.long r17]) (rest := []) ⟨hx, hb, hml, hown, hts⟩ (m_X12_readRecord l D cy tq _ Y _ _ _ _) (cwV 1 hts (good_V kw_1539 kw_1540 kw_1833 kw_12 kw_1541) rfl rfl rfl (by decide +kernel) ⟨Nat.le_of_ble_eq_true rfl, Nat.le_of_ble_eq_true rfl⟩) (gm_preV hK hW hC hS hA k1 (by decide) (q := (RX12, TX12, 68)) rfl rfl hf) rfl rfl hl.1 rfl (lv_room (Nat.le_of_ble_eq_true rfl)) dX12_noted_43 ⟨Nat.le_of_ble_eq_true rfl, Nat.le_of_ble_eq_true rfl⟩) hW hS hA (fun r19 M18 H locs hW hS hf => ?_)
            refine lv_istore (lv' := [(4, .int r19), (0, .ref v0), (1, .int v1), (2, .int v2), (3, .int x3)]) hx hb dX12_noted_46 hl (by decide) rfl (fun ls hl => ?_)
            refine lv_aload_n hx hb dX12_noted_48 rfl (lv_at hl 1 rfl) ?_
            obtain ⟨b20, hb20, hf⟩ := hf
            refine gm_getR (C := RX12) (T := TX12) (N := 68) (j := 23) hx hb hts inT_12 hown hK hW k1 (by decide) rfl (by decide) rfl (hts _ kw_1339) rfl dX12_noted_49 hb20 ?_
            refine lv_aload_n hx hb dX12_noted_52 rfl (lv_at hl 1 rfl) ?_
            refine gm_getI (C := RX12) (T := TX12) (N := 68) (j := 49) hx hb hts inT_12 hown hK hW k1 (by decide) rfl (by decide) rfl (hts _ kw_1365) rfl dX12_noted_53 ?_
            obtain ⟨k21, hf⟩ := hf
            obtain ⟨h22, hf⟩ := hf
            refine gm_iald hx hb hK hW k21 h22 dX12_noted_56 ?_
            refine lv_iload_n hx hb dX12_noted_57 rfl (lv_at hl 2 rfl) ?_
            refine lv_icmp_ne (tgt := 90) hx hb dX12_noted_58 (by decide) (fun c23 => ?_) (fun c23 => ?_)
            · replace hf := hf.1 c23
              exact j90 _ _ _ _ (lv_sub hl [1, 2, 3, 4] rfl) hW hS hf
            · replace hf := hf.2 c23
              refine lv_aload_n hx hb dX12_noted_61 rfl (lv_at hl 1 rfl) ?_
              obtain ⟨b24, hb24, hf⟩ := hf
              refine gm_getR (C := RX12) (T := TX12) (N := 68) (j := 23) hx hb hts inT_12 hown hK hW k1 (by decide) rfl (by decide) rfl (hts _ kw_1339) rfl dX12_noted_62 hb24 ?_
              refine lv_aload_n hx hb dX12_noted_65 rfl (lv_at hl 1 rfl) ?_
              refine gm_getI (C := RX12) (T := TX12) (N := 68) (j := 49) hx hb hts inT_12 hown hK hW k1 (by decide) rfl (by decide) rfl (hts _ kw_1365) rfl dX12_noted_66 ?_
              refine lv_iconst (v := 1) hx hb dX12_noted_69 (by decide +kernel) ?_
              refine lv_iadd hx hb dX12_noted_70 ?_
              obtain ⟨k25, hf⟩ := hf
              obtain ⟨h26, hf⟩ := hf
              refine gm_iald hx hb hK hW k25 h26 dX12_noted_71 ?_
              refine lv_iload_n hx hb dX12_noted_72 rfl (lv_at hl 3 rfl) ?_
              refine lv_icmp_ne (tgt := 90) hx hb dX12_noted_73 (by decide) (fun c27 => ?_) (fun c27 => ?_)
              · replace hf := hf.1 c27
                exact j90 _ _ _ _ (lv_sub hl [1, 2, 3, 4] rfl) hW hS hf
              · replace hf := hf.2 c27
                refine lv_aload_n hx hb dX12_noted_76 rfl (lv_at hl 1 rfl) ?_
                obtain ⟨b28, hb28, hf⟩ := hf
                refine gm_getR (C := RX12) (T := TX12) (N := 68) (j := 23) hx hb hts inT_12 hown hK hW k1 (by decide) rfl (by decide) rfl (hts _ kw_1339) rfl dX12_noted_77 hb28 ?_
                refine lv_aload_n hx hb dX12_noted_80 rfl (lv_at hl 1 rfl) ?_
                refine gm_getI (C := RX12) (T := TX12) (N := 68) (j := 51) hx hb hts inT_12 hown hK hW k1 (by decide) rfl (by decide) rfl (hts _ kw_1367) rfl dX12_noted_81 ?_
                refine lv_bipush (v := 8) hx hb dX12_noted_84 (by decide +kernel) ?_
                refine gm_cl (va_runS (As := [.ref b28, .int (mI M18 v0 51), .int 8]) (rest := []) ⟨hx, hb, hml, hown, hts⟩ (m_X12_number l D cy tq _ Y _ _ _ _ _) (va_cwS 3 hts (good_S kw_1520 kw_1521 kw_12 kw_1522) rfl rfl rfl (by decide +kernel) ⟨Nat.le_of_ble_eq_true rfl, Nat.le_of_ble_eq_true rfl⟩) (gm_preS hK hW hC hS hA hf) rfl rfl hl.1 rfl (lv_room (Nat.le_of_ble_eq_true rfl)) dX12_noted_86 ⟨Nat.le_of_ble_eq_true rfl, Nat.le_of_ble_eq_true rfl⟩) hW hS hA (fun r30 M29 H locs hW hS hf => ?_)
                exact gm_lret hx hb hr hlocks hW hS hf dX12_noted_89
  exact lp7 n7 _ _ _ _ _ (lv_sub hl [1, 2, 3, 0] rfl) hW hS hf

abbrev rm_X12_isOne : Room := { frames := 2, cells := 0, slots := 0, locals := 80 }
def f_X12_isOne_15 (Y : Ly) (M : Mm) (Kn : Int32 → Mm → Prop) (y1 : Int32) : Prop :=
  bz y1 ∧ Kn y1 M
def f_X12_isOne_14 (Y : Ly) (M : Mm) (Kn : Int32 → Mm → Prop) : Prop :=
  f_X12_isOne_15 Y M Kn 0
def f_X12_isOne (Y : Ly) (v0 : Int32) (M : Mm) (Kn : Int32 → Mm → Prop) : Prop :=
  (v0 < 0 → (f_X12_isOne_14 Y M Kn)) ∧ (¬ (v0 < 0) → ((8 ≤ v0 → (f_X12_isOne_14 Y M Kn)) ∧ (¬ (8 ≤ v0) → (f_X12_isOne_15 Y M Kn 1))))
set_option maxHeartbeats 4000000 in
set_option maxRecDepth 100000 in
theorem m_X12_isOne (l : Launch) (D : va_G) (cy : Cy) (tq sz : Nat) (Y : Ly) (v0 : Int32) (M : Mm) (Kn : Int32 → Mm → Prop) : Met l yX12_isOne (Cond.code yX12_isOne cX12_isOne 1 (some .boolean) :: TT) rm_X12_isOne (PcG D cy tq [.int v0] sz Y M (f_X12_isOne Y v0 M Kn)) (va_Qi Kn (BG D cy (Am Y sz) Y) (Am Y sz)) 0 0 (Am Y sz) := by
  refine Met.ofW (cc := cX12_isOne) (maxL := 1) (ret := (some .boolean)) (by decide) rfl ?_
  intro p e s m args below meth c s₁ B hml hv
  obtain ⟨hargs, hsz, hW, hK, hC, hf⟩ := hv
  subst hsz
  have hx := B.exec
  have hb := B.bytes
  have hr := B.returns
  have hts : ∀ w ∈ TT, w.before args s = true := fun w h => atoms_spec (ws := Cond.code yX12_isOne cX12_isOne 1 (some .boolean) :: TT) B.pre w (List.mem_cons_of_mem _ h)
  have hown : s.vm.findClass RX12 = some m.cls := findClass_of_methodNamed B.named
  have hlocks := B.notSynchronized
  replace hW := Wd_self (sz := s.heap.size) hW
  generalize hAe : Am Y s.heap.size = A at hW hC ⊢
  have hA : ∀ q : Nat, s.heap.size ≤ q → A q := fun q h => by rw [← hAe]; exact Or.inr h
  clear hAe
  have hS : va_S A s.heap s.heap [] := va_S.rf
  obtain ⟨ls, hE, hl⟩ := gm_entry m [.int v0] (n := 1) hargs (Nat.le_of_ble_eq_true rfl)
  rw [hE]
  have hl : lv_has ls 1 [(0, .int v0)] := hl
  show W p l e rm_X12_isOne s m args below meth c s.heap [] 0 0 (MQ below (va_Qi Kn (BG D cy A Y) A) args s 0 0 A) (F0 m 0 ls [])
  unfold f_X12_isOne at hf
  refine lv_iload_n hx hb dX12_isOne_0 rfl (lv_at hl 0 rfl) ?_
  have j15 : ∀ (y1 : Int32) (H : Heap) (locs : List Loc) (ls : Array Slot), lv_has ls 1 [] → Wd D cy A Y M H → va_S A s.heap H locs → f_X12_isOne_15 Y M Kn y1 → W p l e rm_X12_isOne s m args below meth c H locs 0 0 (MQ below (va_Qi Kn (BG D cy A Y) A) args s 0 0 A) (F0 m 15 ls [.int y1]) := by
    intro y1 H locs ls hl hW hS hf
    unfold f_X12_isOne_15 at hf
    exact gm_zret hx hb hr hlocks hW hS hf.1 hf.2 dX12_isOne_15
  have j14 : ∀ (H : Heap) (locs : List Loc) (ls : Array Slot), lv_has ls 1 [] → Wd D cy A Y M H → va_S A s.heap H locs → f_X12_isOne_14 Y M Kn  → W p l e rm_X12_isOne s m args below meth c H locs 0 0 (MQ below (va_Qi Kn (BG D cy A Y) A) args s 0 0 A) (F0 m 14 ls []) := by
    intro  H locs ls hl hW hS hf
    unfold f_X12_isOne_14 at hf
    refine lv_iconst (v := 0) hx hb dX12_isOne_14 (by decide +kernel) ?_
    exact j15 _ _ _ _ (lv_sub hl [] rfl) hW hS hf
  refine lv_if_lt (tgt := 14) hx hb dX12_isOne_1 (by decide) (fun c2 => ?_) (fun c2 => ?_)
  · replace hf := hf.1 c2
    exact j14  _ _ _ (lv_sub hl [] rfl) hW hS hf
  · replace hf := hf.2 c2
    refine lv_iload_n hx hb dX12_isOne_4 rfl (lv_at hl 0 rfl) ?_
    refine lv_bipush (v := 8) hx hb dX12_isOne_5 (by decide +kernel) ?_
    refine lv_icmp_ge (tgt := 14) hx hb dX12_isOne_7 (by decide) (fun c3 => ?_) (fun c3 => ?_)
    · replace hf := hf.1 c3
      exact j14  _ _ _ (lv_sub hl [] rfl) hW hS hf
    · replace hf := hf.2 c3
      refine lv_iconst (v := 1) hx hb dX12_isOne_10 (by decide +kernel) ?_
      refine lv_goto (tgt := 15) hx hb dX12_isOne_11 (by decide) ?_
      exact j15 _ _ _ _ (lv_sub hl [] rfl) hW hS hf

abbrev rm_X12_countOfGroup : Room := { frames := 2, cells := 0, slots := 0, locals := 80 }
def f_X12_countOfGroup_50 (Y : Ly) (x2 : Int32) (x3 : Int32) (again8 : Int32 → Int32 → Prop) (y9 : Int32) : Prop :=
  ∀ x10 : Int32, x10 = x2 + y9 → (∀ x11 : Int32, x11 = x3 + 1 → (again8 x10 x11))
def f_X12_countOfGroup_49 (Y : Ly) (x2 : Int32) (x3 : Int32) (again8 : Int32 → Int32 → Prop) : Prop :=
  f_X12_countOfGroup_50 Y x2 x3 again8 0
def f_X12_countOfGroup_45 (Y : Ly) (x2 : Int32) (x3 : Int32) (again8 : Int32 → Int32 → Prop) : Prop :=
  f_X12_countOfGroup_50 Y x2 x3 again8 1
def L_X12_countOfGroup_8 (Y : Ly) (v0 : Nat) (v1 : Int32) (v2 : Int32) (M : Mm) (Kn : Int32 → Mm → Prop) (x2 : Int32) (x3 : Int32) (again8 : Int32 → Int32 → Prop) : Prop :=
  (((8 * v1) + 8) ≤ x3 → (Kn x2 M)) ∧ (¬ (((8 * v1) + 8) ≤ x3) → (yK Y v0 = 12 ∧ (∃ b6 : Nat, mR M v0 37 = some b6 ∧ (yK Y b6 = 103 ∧ (vp_in x3 (yN Y b6) ∧ (((mI M b6 x3.toNatClampNeg) = 0 → (f_X12_countOfGroup_49 Y x2 x3 again8)) ∧ (¬ ((mI M b6 x3.toNatClampNeg) = 0) → ((v2 = 0 → (f_X12_countOfGroup_45 Y x2 x3 again8)) ∧ (¬ (v2 = 0) → (∃ b14 : Nat, mR M v0 38 = some b14 ∧ (yK Y b14 = 103 ∧ (vp_in x3 (yN Y b14) ∧ (((mI M b14 x3.toNatClampNeg) = 0 → (f_X12_countOfGroup_49 Y x2 x3 again8)) ∧ (¬ ((mI M b14 x3.toNatClampNeg) = 0) → (f_X12_countOfGroup_45 Y x2 x3 again8)))))))))))))))
def f_X12_countOfGroup (Y : Ly) (v0 : Nat) (v1 : Int32) (v2 : Int32) (M : Mm) (Kn : Int32 → Mm → Prop) : Prop :=
  ∀ x1 : Int32, x1 = 8 * v1 → (∃ n, LOOP2 (L_X12_countOfGroup_8 Y v0 v1 v2 M Kn) n 0 x1)
set_option maxHeartbeats 4000000 in
set_option maxRecDepth 100000 in
theorem m_X12_countOfGroup (l : Launch) (D : va_G) (cy : Cy) (tq sz : Nat) (Y : Ly) (v0 : Nat) (v1 : Int32) (v2 : Int32) (M : Mm) (Kn : Int32 → Mm → Prop) : Met l yX12_countOfGroup (Cond.code yX12_countOfGroup cX12_countOfGroup 5 (some .int) :: TT) rm_X12_countOfGroup (PcG D cy tq [.ref v0, .int v1, .int v2] sz Y M (f_X12_countOfGroup Y v0 v1 v2 M Kn)) (va_Qi Kn (BG D cy (Am Y sz) Y) (Am Y sz)) 0 0 (Am Y sz) := by
  refine Met.ofW (cc := cX12_countOfGroup) (maxL := 5) (ret := (some .int)) (by decide) rfl ?_
  intro p e s m args below meth c s₁ B hml hv
  obtain ⟨hargs, hsz, hW, hK, hC, hf⟩ := hv
  subst hsz
  have hx := B.exec
  have hb := B.bytes
  have hr := B.returns
  have hts : ∀ w ∈ TT, w.before args s = true := fun w h => atoms_spec (ws := Cond.code yX12_countOfGroup cX12_countOfGroup 5 (some .int) :: TT) B.pre w (List.mem_cons_of_mem _ h)
  have hown : s.vm.findClass RX12 = some m.cls := findClass_of_methodNamed B.named
  have hlocks := B.notSynchronized
  replace hW := Wd_self (sz := s.heap.size) hW
  generalize hAe : Am Y s.heap.size = A at hW hC ⊢
  have hA : ∀ q : Nat, s.heap.size ≤ q → A q := fun q h => by rw [← hAe]; exact Or.inr h
  clear hAe
  have hS : va_S A s.heap s.heap [] := va_S.rf
  obtain ⟨ls, hE, hl⟩ := gm_entry m [.ref v0, .int v1, .int v2] (n := 5) hargs (Nat.le_of_ble_eq_true rfl)
  rw [hE]
  have hl : lv_has ls 5 [(0, .ref v0), (1, .int v1), (2, .int v2)] := hl
  show W p l e rm_X12_countOfGroup s m args below meth c s.heap [] 0 0 (MQ below (va_Qi Kn (BG D cy A Y) A) args s 0 0 A) (F0 m 0 ls [])
  unfold f_X12_countOfGroup at hf
  refine lv_iconst (v := 0) hx hb dX12_countOfGroup_0 (by decide +kernel) ?_
  refine lv_istore_n (lv' := [(3, .int 0), (0, .ref v0), (1, .int v1), (2, .int v2)]) hx hb dX12_countOfGroup_1 rfl hl (by decide) rfl (fun ls hl => ?_)
  refine lv_bipush (v := 8) hx hb dX12_countOfGroup_2 (by decide +kernel) ?_
  refine lv_iload_n hx hb dX12_countOfGroup_4 rfl (lv_at hl 2 rfl) ?_
  refine lv_imul hx hb dX12_countOfGroup_5 ?_
  refine lv_topi (fun x1 ex1 => ?_)
  replace hf := hf x1 ex1
  refine lv_istore (lv' := [(4, .int x1), (3, .int 0), (0, .ref v0), (1, .int v1), (2, .int v2)]) hx hb dX12_countOfGroup_6 hl (by decide) rfl (fun ls hl => ?_)
  obtain ⟨n8, hf⟩ := hf
  have lp8 : ∀ (n8 : Nat) (x2 : Int32) (x3 : Int32) (H : Heap) (locs : List Loc) (ls : Array Slot), lv_has ls 5 [(0, .ref v0), (1, .int v1), (2, .int v2), (3, .int x2), (4, .int x3)] → Wd D cy A Y M H → va_S A s.heap H locs → LOOP2 (L_X12_countOfGroup_8 Y v0 v1 v2 M Kn) n8 x2 x3 → W p l e rm_X12_countOfGroup s m args below meth c H locs 0 0 (MQ below (va_Qi Kn (BG D cy A Y) A) args s 0 0 A) (F0 m 8 ls []) := by
    intro n8
    induction n8 with
    | zero => intro x2 x3 H locs ls hl hW hS hf; exact hf.elim
    | succ n8 ih8 =>
      intro x2 x3 H locs ls hl hW hS hf
      replace hf : L_X12_countOfGroup_8 Y v0 v1 v2 M Kn x2 x3 (LOOP2 (L_X12_countOfGroup_8 Y v0 v1 v2 M Kn) n8) := hf
      unfold L_X12_countOfGroup_8 at hf
      refine lv_iload hx hb dX12_countOfGroup_8 (lv_at hl 4 rfl) ?_
      refine lv_bipush (v := 8) hx hb dX12_countOfGroup_10 (by decide +kernel) ?_
      refine lv_iload_n hx hb dX12_countOfGroup_12 rfl (lv_at hl 1 rfl) ?_
      refine lv_imul hx hb dX12_countOfGroup_13 ?_
      refine lv_bipush (v := 8) hx hb dX12_countOfGroup_14 (by decide +kernel) ?_
      refine lv_iadd hx hb dX12_countOfGroup_16 ?_
      refine lv_icmp_ge (tgt := 58) hx hb dX12_countOfGroup_17 (by decide) (fun c4 => ?_) (fun c4 => ?_)
      · replace hf := hf.1 c4
        refine lv_iload_n hx hb dX12_countOfGroup_58 rfl (lv_at hl 3 rfl) ?_
        exact gm_iret hx hb hr hlocks hW hS hf dX12_countOfGroup_59
      · replace hf := hf.2 c4
        refine lv_iload_n hx hb dX12_countOfGroup_20 rfl (lv_at hl 3 rfl) ?_
        refine lv_aload_n hx hb dX12_countOfGroup_21 rfl (lv_at hl 0 rfl) ?_
        obtain ⟨k5, hf⟩ := hf
        obtain ⟨b6, hb6, hf⟩ := hf
        refine gm_getR (C := RX12) (T := TX12) (N := 68) (j := 37) hx hb hts inT_12 hown hK hW k5 (by decide) rfl (by decide) rfl (hts _ kw_1353) rfl dX12_countOfGroup_22 hb6 ?_
        refine lv_iload hx hb dX12_countOfGroup_25 (lv_at hl 4 rfl) ?_
        obtain ⟨k7, hf⟩ := hf
        obtain ⟨h8, hf⟩ := hf
        refine gm_zald hx hb hK hW k7 h8 dX12_countOfGroup_27 ?_
        have j50 : ∀ (y9 : Int32) (H : Heap) (locs : List Loc) (ls : Array Slot), lv_has ls 5 [(0, .ref v0), (1, .int v1), (2, .int v2), (4, .int x3)] → Wd D cy A Y M H → va_S A s.heap H locs → f_X12_countOfGroup_50 Y x2 x3 (LOOP2 (L_X12_countOfGroup_8 Y v0 v1 v2 M Kn) n8) y9 → W p l e rm_X12_countOfGroup s m args below meth c H locs 0 0 (MQ below (va_Qi Kn (BG D cy A Y) A) args s 0 0 A) (F0 m 50 ls [.int y9, .int x2]) := by
          intro y9 H locs ls hl hW hS hf
          unfold f_X12_countOfGroup_50 at hf
          refine lv_iadd hx hb dX12_countOfGroup_50 ?_
          refine lv_topi (fun x10 ex10 => ?_)
          replace hf := hf x10 ex10
          refine lv_istore_n (lv' := [(3, .int x10), (0, .ref v0), (1, .int v1), (2, .int v2), (4, .int x3)]) hx hb dX12_countOfGroup_51 rfl hl (by decide) rfl (fun ls hl => ?_)
          obtain ⟨x11, ex11⟩ : ∃ y : Int32, y = x3 + 1 := ⟨_, rfl⟩
          replace hf := hf x11 ex11
          refine lv_iinc (v := x11) (lv' := [(4, .int x11), (3, .int x10), (0, .ref v0), (1, .int v1), (2, .int v2)]) hx hb dX12_countOfGroup_52 hl (k := 4) rfl (by rw [ex11]; rfl) (by decide) rfl (fun ls hl => ?_)
          refine lv_goto (tgt := 8) hx hb dX12_countOfGroup_55 (by decide) ?_
          exact ih8 _ _ _ _ _ (lv_sub hl [2, 3, 4, 1, 0] rfl) hW hS hf
        have j49 : ∀ (H : Heap) (locs : List Loc) (ls : Array Slot), lv_has ls 5 [(0, .ref v0), (1, .int v1), (2, .int v2), (4, .int x3)] → Wd D cy A Y M H → va_S A s.heap H locs → f_X12_countOfGroup_49 Y x2 x3 (LOOP2 (L_X12_countOfGroup_8 Y v0 v1 v2 M Kn) n8)  → W p l e rm_X12_countOfGroup s m args below meth c H locs 0 0 (MQ below (va_Qi Kn (BG D cy A Y) A) args s 0 0 A) (F0 m 49 ls [.int x2]) := by
          intro  H locs ls hl hW hS hf
          unfold f_X12_countOfGroup_49 at hf
          refine lv_iconst (v := 0) hx hb dX12_countOfGroup_49 (by decide +kernel) ?_
          exact j50 _ _ _ _ (lv_sub hl [0, 1, 2, 3] rfl) hW hS hf
        refine lv_if_eq (tgt := 49) hx hb dX12_countOfGroup_28 (by decide) (fun c12 => ?_) (fun c12 => ?_)
        · replace hf := hf.1 c12
          exact j49  _ _ _ (lv_sub hl [0, 1, 2, 4] rfl) hW hS hf
        · replace hf := hf.2 c12
          refine lv_iload_n hx hb dX12_countOfGroup_31 rfl (lv_at hl 2 rfl) ?_
          have j45 : ∀ (H : Heap) (locs : List Loc) (ls : Array Slot), lv_has ls 5 [(0, .ref v0), (1, .int v1), (2, .int v2), (4, .int x3)] → Wd D cy A Y M H → va_S A s.heap H locs → f_X12_countOfGroup_45 Y x2 x3 (LOOP2 (L_X12_countOfGroup_8 Y v0 v1 v2 M Kn) n8)  → W p l e rm_X12_countOfGroup s m args below meth c H locs 0 0 (MQ below (va_Qi Kn (BG D cy A Y) A) args s 0 0 A) (F0 m 45 ls [.int x2]) := by
            intro  H locs ls hl hW hS hf
            unfold f_X12_countOfGroup_45 at hf
            refine lv_iconst (v := 1) hx hb dX12_countOfGroup_45 (by decide +kernel) ?_
            refine lv_goto (tgt := 50) hx hb dX12_countOfGroup_46 (by decide) ?_
            exact j50 _ _ _ _ (lv_sub hl [0, 1, 2, 3] rfl) hW hS hf
          refine lv_if_eq (tgt := 45) hx hb dX12_countOfGroup_32 (by decide) (fun c13 => ?_) (fun c13 => ?_)
          · replace hf := hf.1 c13
            exact j45  _ _ _ (lv_sub hl [0, 1, 2, 4] rfl) hW hS hf
          · replace hf := hf.2 c13
            refine lv_aload_n hx hb dX12_countOfGroup_35 rfl (lv_at hl 0 rfl) ?_
            obtain ⟨b14, hb14, hf⟩ := hf
            refine gm_getR (C := RX12) (T := TX12) (N := 68) (j := 38) hx hb hts inT_12 hown hK hW k5 (by decide) rfl (by decide) rfl (hts _ kw_1354) rfl dX12_countOfGroup_36 hb14 ?_
            refine lv_iload hx hb dX12_countOfGroup_39 (lv_at hl 4 rfl) ?_
            obtain ⟨k15, hf⟩ := hf
            obtain ⟨h16, hf⟩ := hf
            refine gm_zald hx hb hK hW k15 h16 dX12_countOfGroup_41 ?_
            refine lv_if_eq (tgt := 49) hx hb dX12_countOfGroup_42 (by decide) (fun c17 => ?_) (fun c17 => ?_)
            · replace hf := hf.1 c17
              exact j49  _ _ _ (lv_sub hl [0, 1, 2, 4] rfl) hW hS hf
            · replace hf := hf.2 c17
              exact j45  _ _ _ (lv_sub hl [0, 1, 2, 4] rfl) hW hS hf
  exact lp8 n8 _ _ _ _ _ (lv_sub hl [2, 3, 4, 1, 0] rfl) hW hS hf
